/** What the boundary tests share: texts of a given size, and calls tried at a boundary and one step to each side. */
final class Edges {
    private static final int[] FAR_OFF = {Integer.MIN_VALUE, Integer.MIN_VALUE + 1, -1000, 1000, Integer.MAX_VALUE};

    /** A call in which one number is tried out. */
    interface Call {
        long at(int number);
    }

    private Edges() {
    }

    /** The call is answered from least to most, and refused one step outside of that, and far outside. */
    static void range(String call, int least, int most, long refused, Call tried) {
        for (int n = least; n <= most; n++) {
            Kit.due(call + " with " + n + " is answered", tried.at(n) != refused, true);
        }
        Kit.due(call + " with one too small, " + (least - 1), tried.at(least - 1), refused);
        Kit.due(call + " with one too large, " + (most + 1), tried.at(most + 1), refused);
        for (int n : FAR_OFF) {
            Kit.due(call + " with " + n, tried.at(n), refused);
        }
    }

    /** Of all numbers from -50 to 1000 the call is refused but for those from, to; from, to; .. */
    static void only(String call, long refused, Call tried, int... fromTo) {
        for (int what = -50; what <= 1000; what++) {
            boolean may = false;
            for (int i = 0; i + 1 < fromTo.length; i += 2) {
                may |= what >= fromTo[i] && what <= fromTo[i + 1];
            }
            Kit.due(call + " " + what + (may ? " is answered" : " is refused"), tried.at(what) != refused, may);
        }
        for (int what : FAR_OFF) {
            Kit.due(call + " " + what, tried.at(what), refused);
        }
    }

    /** The call answers so from the number 0 on; one step ahead and one behind it answers the other thing. */
    static void row(String call, long outside, Call tried, long... due) {
        Kit.due(call + " -1", tried.at(-1), outside);
        for (int k = 0; k < due.length; k++) {
            Kit.due(call + " " + k, tried.at(k), due[k]);
        }
        Kit.due(call + " " + due.length, tried.at(due.length), outside);
    }

    static void fraction(String call, long above, long below, long dueAbove, long dueBelow) {
        Kit.due(call + ", N", above, dueAbove);
        Kit.due(call + ", D", below, dueBelow);
    }

    static String line(int cue, int who, int scene, int harm) {
        return "line " + cue + " " + who + " " + scene + " " + harm + ";";
    }

    /** Lines one behind the other, each the cue of the one behind it, said by these people. */
    static String rowBy(int... people) {
        StringBuilder text = new StringBuilder();
        for (int l = 0; l < people.length; l++) {
            text.append(line(Math.max(0, l - 1), people[l], 0, 0));
        }
        return text.toString();
    }

    /** Lines one behind the other, said by 0, of scene 0, but for the last one. */
    static String rowTo(int lines, int who, int scene, int harm) {
        StringBuilder text = new StringBuilder();
        for (int l = 0; l < lines; l++) {
            boolean last = l == lines - 1;
            text.append(line(Math.max(0, l - 1), last ? who : 0, last ? scene : 0, last ? harm : 0));
        }
        return text.toString();
    }

    static int[] same(int person, int times) {
        int[] people = new int[times];
        java.util.Arrays.fill(people, person);
        return people;
    }

    static CellarPrompter book(String text) {
        return Kit.with(text, null, null, null);
    }

    /** Two books. */
    static CellarPrompter books(String one, String other) {
        CellarPrompter x = book(one);
        Kit.due("the second book", Kit.tell(x, 0, -1, other), 1);
        return x;
    }

    static CellarPrompter evening(String book, String evening) {
        return Kit.with(book, evening, null, null);
    }

    static CellarPrompter log(String book, String log) {
        return Kit.with(book, null, log, null);
    }

    static CellarPrompter town(String town) {
        return Kit.with(null, null, null, town);
    }
}

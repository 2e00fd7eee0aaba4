/** The boundaries of evenings: Terms 2, 5, the end of 6; promises 8 to 10 (deed, till, state), 21 (drawn), 30 (after). */
public final class BoundaryEveningsTest {
    /** Line 0, said by 0; line 1, by 1, is due behind it, line 2, by 2, a straying; nothing follows those. */
    private static final String FORK = "line 0 0 0 1;line 0 1 0 2;line 0 2 0 4;";
    /** Line 0 again and again: each time behind the first one it is a straying, for line 1 is due. */
    private static final String STRAYING = "line 0 0 0 0;line 0 1 0 0;back 0 0;";
    /** Line 0 again and again, always due. */
    private static final String LOOP = "line 0 0 0 1;back 0 0;";
    private static final int MINUTE = 0;
    private static final int LAST = 1;
    private static final int DUE = 2;
    private static final int SILENCE = 3;
    private static final int HARM = 4;
    private static final int STRAYINGS = 5;
    private static final int FINES = 6;
    private static final int PROMPTED = 7;
    private static final int CUT = 8;
    private static final int ROOM = 9;
    private static final int SAID = 10;
    private static final int DRIED = 20;

    public static void main(String[] args) {
        deedNumbers();
        fullEvening();
        ends();
        stateNumbers();
        beginning();
        saying();
        drying();
        waiting();
        prompting();
        cutting();
        outAndIn();
        endsOfSilence();
        minutes();
        freeStrayings();
        nothingDue();
        noLines();
        hushed();
        loudest();
        fined();
        afterNumbers();
        drawnNumbers();
        drawnOnce();
        drawnTwice();
        drawnToTheEnd();
        Kit.finish("BoundaryEveningsTest");
    }

    private static void till(String book, String evening, int due) {
        Kit.due("till of " + evening, Edges.evening(book, evening).till(0, 0), due);
    }

    /** The state behind all deeds of an evening, each of which can be. */
    private static void state(String book, String evening, int... whatAndDue) {
        CellarPrompter x = Edges.evening(book, evening);
        int deeds = x.deed(0, -1, 0);
        Kit.due("all can be: " + evening, x.till(0, 0), deeds);
        for (int i = 0; i + 1 < whatAndDue.length; i += 2) {
            Kit.due("state " + whatAndDue[i] + " behind " + evening, x.state(0, 0, deeds, whatAndDue[i]),
                whatAndDue[i + 1]);
        }
    }

    /** Promise 8: the number of deeds by k NONE, what 0 alone; -2 if there is none such, or for another what. */
    private static void deedNumbers() {
        CellarPrompter x = Edges.evening("", "say 19;out 5;in 0;dry;prompt;wait;go;");
        Kit.due("deeds", x.deed(0, -1, 0), 7);
        for (int what : new int[] {Integer.MIN_VALUE, -2, -1, 1, 2, Integer.MAX_VALUE}) {
            Kit.due("deed -1 " + what, x.deed(0, -1, what), -2);
        }
        int[] sorts = {0, 1, 2, 3, 4, 5, 6};
        int[] numbers = {19, 5, 0, -1, -1, -1, -1};
        for (int k = 0; k < 7; k++) {
            int at = k;
            Kit.due("deed " + k, x.deed(0, k, 0), sorts[k]);
            Kit.due("number of deed " + k, x.deed(0, k, 1), numbers[k]);
            Edges.range("deed " + k, 0, 1, -2, what -> x.deed(0, at, what));
        }
        for (int k : new int[] {Integer.MIN_VALUE, -3, -2, 7, 8, 39, 40, 41, Integer.MAX_VALUE}) {
            Kit.due("deed " + k, x.deed(0, k, 0), -2);
            Kit.due("number of deed " + k, x.deed(0, k, 1), -2);
        }
        Edges.range("deed of an evening", 0, 0, -2, e -> x.deed(e, -1, 0));
        Edges.range("deed 0 of an evening", 0, 0, -2, e -> x.deed(e, 0, 0));
        CellarPrompter none = Edges.evening("", "");
        Kit.due("no deeds", none.deed(0, -1, 0), 0);
        Kit.due("no deed 0", none.deed(0, 0, 0), -2);
        Kit.due("no number of deed 0", none.deed(0, 0, 1), -2);
        Kit.due("a second evening", Kit.tell(none, 1, -1, "go;"), 1);
        Edges.range("deed of two evenings", 0, 1, -2, e -> none.deed(e, -1, 0));
    }

    /** As many deeds as may be. */
    private static void fullEvening() {
        CellarPrompter x = Edges.evening(LOOP, "wait;".repeat(39) + "say 0;");
        Kit.due("forty deeds", x.deed(0, -1, 0), 40);
        Kit.due("the last one", x.deed(0, 39, 0), 0);
        Kit.due("its number", x.deed(0, 39, 1), 0);
        Kit.due("none behind it", x.deed(0, 40, 0), -2);
        Kit.due("all can be", x.till(0, 0), 40);
        Kit.due("the silence ahead of it", x.state(0, 0, 39, SILENCE), 39);
        Kit.due("the last state", x.state(0, 0, 40, MINUTE), 40);
        Kit.due("no state behind it", x.state(0, 0, 41, MINUTE), -2);
        Kit.due("hushed", x.after(0, 0, 0), 39);
        state(LOOP, "dry;".repeat(40), SILENCE, 40, MINUTE, 40, DRIED, 40, SAID, 0);
        state(LOOP, "say 0;".repeat(40), SILENCE, 0, MINUTE, 40, SAID, 40, HARM, 40, STRAYINGS, 0);
        state("line 0 0 0 9;back 0 0;", "say 0;".repeat(40), HARM, 360);
        state(LOOP, "out 0;go;".repeat(1) + "go;".repeat(38), CUT, 39, HARM, 0, MINUTE, 39);
    }

    /** Promise 9: the first deed that can't be, else how many there are; NONE if there is none such of either. */
    private static void ends() {
        till(LOOP, "", 0);
        till(LOOP, "go;say 0;", 0);
        till(LOOP, "say 0;go;say 0;", 1);
        till(LOOP, "say 0;say 0;go;", 2);
        till(LOOP, "say 0;say 0;say 0;", 3);
        CellarPrompter x = Edges.evening(LOOP, "say 0;");
        Edges.range("till in a book", 0, 0, -1, b -> x.till(b, 0));
        Edges.range("till of an evening", 0, 0, -1, e -> x.till(0, e));
        Kit.due("a second book", Kit.tell(x, 0, -1, ""), 1);
        Kit.due("a second evening", Kit.tell(x, 1, -1, ""), 1);
        Edges.range("till in two books", 0, 1, -1, b -> x.till(b, 0));
        Edges.range("till of two evenings", 0, 1, -1, e -> x.till(0, e));
        Kit.due("it can't be in the second", x.till(1, 0), 0);
        Kit.due("none in the second evening", x.till(0, 1), 0);
    }

    /** Promise 10: n from 0 to END; each what; -2 if there is no such state, or for another what. */
    private static void stateNumbers() {
        CellarPrompter x = Edges.evening(FORK, "say 0;say 1;say 1;wait;");
        Edges.range("state n", 0, 2, -2, n -> x.state(0, 0, n, MINUTE));
        Edges.range("state n, the last line", 0, 2, -2, n -> x.state(0, 0, n, LAST));
        Edges.range("state in a book", 0, 0, -2, b -> x.state(b, 0, 0, MINUTE));
        Edges.range("state of an evening", 0, 0, -2, e -> x.state(0, e, 0, MINUTE));
        for (int n = 0; n <= 2; n++) {
            int at = n;
            Edges.only("state " + n, -2, what -> x.state(0, 0, at, what), 0, 9, 10, 15, 20, 25);
        }
        Edges.only("no state", -2, what -> x.state(0, 0, 3, what));
        CellarPrompter none = Edges.evening(FORK, "");
        Edges.range("state of no deeds", 0, 0, -2, n -> none.state(0, 0, n, MINUTE));
        CellarPrompter can = Edges.evening(FORK, "say 0;say 1;");
        Edges.range("state of deeds that can all be", 0, 2, -2, n -> can.state(0, 0, n, MINUTE));
    }

    /** An evening begins ahead of line 0, all in the room, no silence. */
    private static void beginning() {
        state(FORK, "", MINUTE, 0, LAST, -1, DUE, 0, SILENCE, 0, HARM, 0, STRAYINGS, 0, FINES, 0, PROMPTED, 0, CUT, 0,
            ROOM, 63, SAID, 0, SAID + 5, 0, DRIED, 0, DRIED + 5, 0);
        state(FORK + "free 0;", "", FINES, 0);
        till(FORK, "say 1;", 0);
        till(FORK, "say 2;", 0);
        till(FORK, "say 3;", 0);
        till(FORK, "say 19;", 0);
        till(FORK, "say 0;", 1);
        // At first line 0 alone may be said, even if lines follow themselves, or it follows another.
        till("line 0 0 0 0;line 1 0 0 0;back 1 0;", "say 1;", 0);
    }

    /** say: what is due, or another follower of the last one, by one who is in the room. */
    private static void saying() {
        state(FORK, "say 0;", LAST, 0, DUE, 1, HARM, 1, STRAYINGS, 0, SAID, 1);
        state(FORK, "say 0;say 1;", LAST, 1, DUE, -1, HARM, 3, STRAYINGS, 0, SAID + 1, 1);
        state(FORK, "say 0;say 2;", LAST, 2, DUE, -1, HARM, 5, STRAYINGS, 1, SAID + 2, 1);
        till(FORK, "say 0;say 0;", 1);
        till(FORK, "say 0;say 3;", 1);
        till(FORK, "say 0;say 1;say 2;", 2);
        till(FORK, "out 0;say 0;", 1);
        till(FORK, "say 0;out 0;say 1;", 3);
        till(FORK, "say 0;out 1;say 1;", 2);
        till(FORK, "say 0;out 1;say 2;", 3);
        till(FORK, "say 0;out 2;say 2;", 2);
        till(FORK, "say 0;out 2;in 2;say 2;", 4);
        state(FORK, "say 0;out 1;say 2;", STRAYINGS, 1);
        // A cut line is the last one, too: its followers may be said.
        state(FORK, "out 0;go;say 2;", LAST, 2, HARM, 4, STRAYINGS, 1, SAID, 0);
        // What a child says does no harm, as what all others say does.
        state(FORK + "child 2;", "say 0;say 2;", HARM, 1);
        state(FORK + "child 0;", "say 0;say 2;", HARM, 4);
        state("line 0 5 0 9;child 5;", "wait;prompt;", HARM, 0, PROMPTED, 1);
    }

    /** dry: if a line is due whose who is in the room. */
    private static void drying() {
        state(FORK, "dry;", LAST, -1, DUE, 0, SILENCE, 1, DRIED, 1, SAID, 0, HARM, 0);
        state(FORK, "dry;dry;", SILENCE, 2, DRIED, 2);
        state(FORK, "say 0;dry;", LAST, 0, SILENCE, 1, DRIED, 0, DRIED + 1, 1);
        till(FORK, "out 0;dry;", 1);
        till(FORK, "out 0;in 0;dry;", 3);
        till(FORK, "say 0;out 1;dry;", 2);
        till(FORK, "say 0;out 0;out 2;dry;", 4);
        till(FORK, "say 0;say 1;dry;", 2);
        // The silence may be longer than it takes to cut.
        state(FORK + "cut 1;", "dry;dry;dry;", SILENCE, 3);
        // He who always dries may say it, and he who never dries may dry: odds are no matter of evenings.
        state(FORK + "dry 0 10;", "say 0;", LAST, 0);
        state(FORK + "dry 0 0;", "dry;", DRIED, 1);
    }

    /** wait: the silence is 1 longer, whatever is due, whoever is in. */
    private static void waiting() {
        state(FORK, "wait;", SILENCE, 1, LAST, -1, DUE, 0);
        state(FORK, "wait;wait;", SILENCE, 2);
        state(FORK, "dry;wait;dry;", SILENCE, 3, DRIED, 2);
        state(FORK, "out 0;out 1;out 2;out 3;out 4;out 5;wait;", SILENCE, 1, ROOM, 0, MINUTE, 1);
        state(FORK, "say 0;say 1;wait;wait;", SILENCE, 2, DUE, -1);
    }

    /** prompt: if there is a silence, a line is due, and its who is in the room. */
    private static void prompting() {
        till(FORK, "prompt;", 0);
        till(FORK, "wait;prompt;", 2);
        till(FORK, "dry;prompt;", 2);
        till(FORK, "wait;prompt;prompt;", 2);
        till(FORK, "wait;prompt;wait;prompt;", 4);
        till(FORK, "wait;say 0;prompt;", 2);
        till(FORK, "wait;out 0;prompt;", 2);
        till(FORK, "out 0;wait;in 0;prompt;", 4);
        till(FORK, "wait;out 0;go;prompt;", 3);
        till(FORK, "say 0;say 1;wait;prompt;", 3);
        state(FORK, "wait;prompt;", LAST, 0, DUE, 1, SILENCE, 0, HARM, 1, PROMPTED, 1, SAID, 1, STRAYINGS, 0, MINUTE, 2);
        state(FORK, "dry;prompt;dry;dry;prompt;", LAST, 1, PROMPTED, 2, SAID, 1, SAID + 1, 1, HARM, 3, DRIED, 1,
            DRIED + 1, 2);
    }

    /** go: what is due is cut, if the silence is CUT or longer, or its who is out. */
    private static void cutting() {
        for (int cut = 1; cut <= 9; cut++) {
            String book = FORK + "cut " + cut + ";";
            for (int silence = 0; silence <= cut + 1; silence++) {
                till(book, "wait;".repeat(silence) + "go;", silence >= cut ? silence + 1 : silence);
                till(book, "dry;".repeat(silence) + "go;", silence >= cut ? silence + 1 : silence);
                till(book, "wait;".repeat(silence) + "out 0;go;", silence + 2);
            }
            state(book, "wait;".repeat(cut) + "go;", LAST, 0, DUE, 1, SILENCE, 0, HARM, 0, CUT, 1, SAID, 0, MINUTE,
                cut + 1, PROMPTED, 0, STRAYINGS, 0);
        }
        till(FORK, "wait;wait;go;", 2);
        till(FORK, "wait;wait;wait;go;", 4);
        till(FORK, "out 0;go;", 2);
        till(FORK, "out 0;in 0;go;", 2);
        till(FORK, "out 1;go;", 1);
        till(FORK, "out 0;go;go;", 2);
        till(FORK, "out 0;out 1;go;go;go;", 4);
        till(FORK, "say 0;say 1;wait;wait;wait;go;", 5);
        state(FORK, "out 0;out 1;go;go;", LAST, 1, DUE, -1, CUT, 2, HARM, 0, MINUTE, 2);
    }

    /** out: one who is in goes; in: one who is out comes. */
    private static void outAndIn() {
        for (int p = 0; p <= 5; p++) {
            String out = "out " + p + ";";
            String in = "in " + p + ";";
            till(FORK, in, 0);
            till(FORK, out, 1);
            till(FORK, out + out, 1);
            till(FORK, out + in, 2);
            till(FORK, out + in + in, 2);
            till(FORK, out + in + out, 3);
            state(FORK, out, ROOM, 63 - (1 << p), MINUTE, 0);
            state(FORK, out + in, ROOM, 63, MINUTE, 0);
        }
        state(FORK, "out 0;out 1;out 2;out 3;out 4;out 5;", ROOM, 0);
        state(FORK, "out 0;out 1;out 2;out 3;out 4;out 5;in 5;", ROOM, 32);
    }

    /** Saying, prompting, cutting end the silence; out and in do not. */
    private static void endsOfSilence() {
        state(FORK, "wait;say 0;", SILENCE, 0);
        state(FORK, "say 0;wait;wait;say 2;", SILENCE, 0);
        state(FORK, "wait;prompt;", SILENCE, 0);
        state(FORK, "wait;wait;wait;go;", SILENCE, 0);
        state(FORK, "wait;out 0;go;", SILENCE, 0);
        state(FORK, "wait;out 5;", SILENCE, 1);
        state(FORK, "wait;out 5;in 5;wait;", SILENCE, 2);
        till(FORK, "wait;wait;wait;say 0;go;", 4);
    }

    /** Each deed but out and in takes a minute. */
    private static void minutes() {
        state(LOOP, "say 0;", MINUTE, 1);
        state(LOOP, "dry;", MINUTE, 1);
        state(LOOP, "wait;", MINUTE, 1);
        state(LOOP, "wait;prompt;", MINUTE, 2);
        state(LOOP, "out 0;go;", MINUTE, 1);
        state(LOOP, "out 0;", MINUTE, 0);
        state(LOOP, "out 0;in 0;", MINUTE, 0);
    }

    /** Beyond the free strayings each costs a fine of 1. */
    private static void freeStrayings() {
        for (int free = 0; free <= 9; free++) {
            CellarPrompter x = Edges.evening(STRAYING + "free " + free + ";", "say 0;".repeat(13));
            for (int strayings = 0; strayings <= 12; strayings++) {
                Kit.due("strayings", x.state(0, 0, strayings + 1, STRAYINGS), strayings);
                Kit.due("fines of " + strayings + ", free " + free, x.state(0, 0, strayings + 1, FINES),
                    strayings <= free ? 0 : strayings - free);
            }
            Kit.due("fined, free " + free, x.after(0, 0, 2), free + 2);
        }
        CellarPrompter x = Edges.evening(STRAYING, "say 0;".repeat(6));
        Kit.due("three are free at first", x.state(0, 0, 4, FINES), 0);
        Kit.due("the fourth is not", x.state(0, 0, 5, FINES), 1);
        Kit.due("fined", x.after(0, 0, 2), 5);
    }

    /** Nothing is due behind a line without followers. */
    private static void nothingDue() {
        String book = "line 0 0 0 0;";
        state(book, "say 0;", DUE, -1, LAST, 0);
        till(book, "say 0;say 0;", 1);
        till(book, "say 0;dry;", 1);
        till(book, "say 0;wait;prompt;", 2);
        till(book, "say 0;wait;wait;wait;go;", 4);
        till(book, "say 0;out 0;go;", 2);
        till(book, "say 0;wait;out 0;in 0;", 4);
        state(book, "out 0;go;", DUE, -1, LAST, 0, CUT, 1);
    }

    /** A book without lines: nothing is due at first. */
    private static void noLines() {
        state("", "", DUE, -1, LAST, -1, ROOM, 63);
        till("", "say 0;", 0);
        till("", "dry;", 0);
        till("", "wait;prompt;", 1);
        till("", "wait;wait;wait;go;", 3);
        till("", "out 0;go;", 1);
        state("", "wait;out 5;", SILENCE, 1, MINUTE, 1, ROOM, 31);
    }

    /** HUSHED: the longest silence of any state up to END. */
    private static void hushed() {
        int[] due = {0, 0, 1, 2, 2, 2, 3, 2, 1, 1};
        String[] evenings = {"", "say 0;", "wait;", "dry;dry;", "wait;wait;say 0;", "wait;say 0;dry;dry;",
            "wait;wait;wait;go;wait;wait;", "wait;wait;say 1;wait;wait;", "wait;go;wait;wait;", "dry;prompt;dry;"};
        for (int i = 0; i < due.length; i++) {
            Kit.due("hushed, " + evenings[i], Edges.evening(FORK, evenings[i]).after(0, 0, 0), due[i]);
        }
        Kit.due("hushed without lines", Edges.evening("", "wait;dry;").after(0, 0, 0), 1);
    }

    /** LOUDEST: who said most lines, of several the least; NONE if nobody said one. */
    private static void loudest() {
        int[] due = {-1, -1, -1, 0, 0, 0, 1, 1, 0};
        String[] evenings = {"", "wait;dry;", "out 0;go;", "say 0;", "say 0;say 1;", "wait;prompt;", "out 0;go;say 1;",
            "out 0;go;wait;prompt;", "say 0;say 9;say 1;"};
        for (int i = 0; i < due.length; i++) {
            Kit.due("loudest, " + evenings[i], Edges.evening(FORK, evenings[i]).after(0, 0, 1), due[i]);
        }
        String book = Edges.rowBy(5, 4, 4, 5, 5);
        String evening = "";
        int[] row = {-1, 5, 4, 4, 4, 5};
        for (int said = 0; said <= 5; said++) {
            Kit.due("loudest of " + said, Edges.evening(book, evening).after(0, 0, 1), row[said]);
            evening += "say " + said + ";";
        }
    }

    /** FINED: the least n of a state with a fine, up to END; NONE if there is none. */
    private static void fined() {
        String book = STRAYING + "free 1;";
        int[] due = {-1, -1, -1, 3, 3, -1, 4, -1};
        String[] evenings = {"", "say 0;", "say 0;say 0;", "say 0;say 0;say 0;", "say 0;say 0;say 0;say 0;",
            "say 0;say 0;out 0;say 0;", "say 0;say 0;wait;say 0;", "say 0;say 0;say 1;say 0;"};
        for (int i = 0; i < due.length; i++) {
            Kit.due("fined, " + evenings[i], Edges.evening(book, evenings[i]).after(0, 0, 2), due[i]);
        }
        Kit.due("none is free", Edges.evening(STRAYING + "free 0;", "say 0;say 0;").after(0, 0, 2), 2);
        Kit.due("none is free, none strayed", Edges.evening(STRAYING + "free 0;", "say 0;say 1;").after(0, 0, 2), -1);
        Kit.due("the last of forty", Edges.evening(STRAYING + "free 0;", "wait;".repeat(38) + "say 0;say 0;")
            .after(0, 0, 2), 40);
    }

    /** Promise 30: what 0 to 2; -2 if there is none such of either, or for another what. */
    private static void afterNumbers() {
        CellarPrompter x = Edges.evening(STRAYING + "free 0;", "wait;say 0;say 0;");
        Edges.only("after", -2, what -> x.after(0, 0, what), 0, 2);
        Edges.range("after in a book", 0, 0, -2, b -> x.after(b, 0, 0));
        Edges.range("after an evening", 0, 0, -2, e -> x.after(0, e, 0));
        for (int what = 0; what <= 2; what++) {
            Kit.due("no such book", x.after(1, 0, what), -2);
            Kit.due("no such evening", x.after(0, 1, what), -2);
        }
    }

    /** Promise 21: n from 0 to 60, what as state(); -2 if there are no lines, or no such book. */
    private static void drawnNumbers() {
        CellarPrompter x = Edges.books(LOOP, "");
        Edges.range("drawn n", 0, 60, -2, n -> x.drawn(0, 1, n, MINUTE));
        Edges.range("drawn of a book", 0, 0, -2, b -> x.drawn(b, 1, 1, MINUTE));
        Edges.only("drawn what", -2, what -> x.drawn(0, 1, 60, what), 0, 9, 10, 15, 20, 25);
        Edges.only("drawn what, none drawn", -2, what -> x.drawn(0, 1, 0, what), 0, 9, 10, 15, 20, 25);
        Edges.only("drawn without lines", -2, what -> x.drawn(1, 1, 0, what));
        for (int what = 0; what <= 9; what++) {
            int due = what == LAST ? -1 : what == ROOM ? 63 : 0;
            Kit.due("none drawn, " + what, x.drawn(0, 77, 0, what), due);
        }
    }

    private static void drawn(String book, int seed, int n, int... whatAndDue) {
        CellarPrompter x = Edges.book(book);
        for (int i = 0; i + 1 < whatAndDue.length; i += 2) {
            Kit.due("drawn " + seed + " " + n + ", " + whatAndDue[i], x.drawn(0, seed, n, whatAndDue[i]),
                whatAndDue[i + 1]);
        }
    }

    /** Each number below 8 by a seed that draws it first; of 3 to 5 and 7 also such with the highest bit set. */
    private static void drawnOnce() {
        for (int seed : new int[] {0, 4, 8, Integer.MIN_VALUE, Integer.MAX_VALUE, -1}) {
            drawn(FORK, seed, 1, LAST, 0, MINUTE, 1, HARM, 1, SAID, 1, ROOM, 63);
        }
        for (int seed : new int[] {3, 12, 17, 11, 16, 1, 6}) {
            // 3 ahead of line 0, a prompt and a go without a silence: nothing can be done.
            drawn(FORK, seed, 1, LAST, -1, MINUTE, 0, SILENCE, 0, ROOM, 63);
        }
        for (int seed : new int[] {2, 7, -12345}) {
            drawn(FORK, seed, 1, LAST, -1, MINUTE, 1, SILENCE, 1, DRIED, 1, ROOM, 63);
        }
        int[] out = {24, 29, 10, 38, 57, 5};
        for (int p = 0; p <= 5; p++) {
            drawn(FORK, out[p], 1, ROOM, 63 - (1 << p), MINUTE, 0, LAST, -1);
        }
    }

    private static void drawnTwice() {
        // Nothing is drawn for a follower ahead of line 0: so the second number says it, and is not a dry.
        drawn(FORK, 272, 2, LAST, 0, MINUTE, 1, DRIED, 0);
        // Nothing is drawn for a follower if there are none: so the third number sends 1 out, not 4.
        drawn("line 0 0 0 0;", 9, 3, ROOM, 61, LAST, 0, MINUTE, 1);
        // A follower's place below their number: of two the first, which is due, the second; of twenty the last.
        drawn(FORK, 46, 2, LAST, 1, STRAYINGS, 0, MINUTE, 2);
        drawn(FORK, 9, 2, LAST, 2, STRAYINGS, 1, MINUTE, 2);
        drawn("line 0 0 0 0;".repeat(20) + "back 0 0;", 9, 2, LAST, 0, STRAYINGS, 1, SAID, 2);
        drawn("line 0 0 0 0;".repeat(20), 9, 2, LAST, 5, STRAYINGS, 1, SAID, 2);
        // One who is out comes in.
        drawn(FORK, 1975, 1, ROOM, 31);
        drawn(FORK, 1975, 2, ROOM, 63);
        drawn(FORK, 260, 1, ROOM, 62);
        drawn(FORK, 260, 2, ROOM, 63);
        // Each, if it may: who is out says nothing, does not dry, is cut.
        drawn(FORK, 43, 2, ROOM, 62, LAST, -1, MINUTE, 0);
        drawn(FORK, 81, 2, ROOM, 62, DRIED, 0, SILENCE, 0, MINUTE, 0);
        drawn(FORK, 388, 2, ROOM, 62, LAST, 0, CUT, 1, MINUTE, 1);
        drawn(FORK, 59, 2, LAST, 0, PROMPTED, 1, SILENCE, 0, MINUTE, 2);
        drawn(FORK, 7, 2, LAST, -1, CUT, 0, SILENCE, 1, MINUTE, 1);
        drawn(FORK + "cut 1;", 7, 2, LAST, 0, CUT, 1, SILENCE, 0, MINUTE, 2);
        drawn(FORK, 3436, 4, LAST, 0, CUT, 1, SILENCE, 0, MINUTE, 4);
        drawn(FORK + "cut 4;", 3436, 4, LAST, -1, CUT, 0, SILENCE, 3, MINUTE, 3);
        drawn(FORK, 8, 2, LAST, 1, STRAYINGS, 0, MINUTE, 2);
        drawn("line 0 0 0 0;", 8, 2, LAST, 0, MINUTE, 1);
    }

    /** As often as may be, and once less. */
    private static void drawnToTheEnd() {
        drawn(LOOP, 1, 59, MINUTE, 29, SAID, 22, DRIED, 5, PROMPTED, 1, CUT, 2, ROOM, 17, SILENCE, 1);
        drawn(LOOP, 1, 60, MINUTE, 30, SAID, 22, DRIED, 6, PROMPTED, 1, CUT, 2, ROOM, 17, SILENCE, 2);
        drawn(LOOP, -1, 59, MINUTE, 39, SAID, 30, DRIED, 7, PROMPTED, 1, CUT, 2, ROOM, 37, SILENCE, 0);
        drawn(LOOP, -1, 60, MINUTE, 39, SAID, 30, DRIED, 7, PROMPTED, 1, CUT, 2, ROOM, 5, SILENCE, 0);
    }
}

/** Each promise in turn: answers worked out by hand, the edges that the document names, wrong inputs. */
public final class PromisesTest {
    private static final String BOOK = "line 0 0 0 1;line 0 1 1 2;line 0 2 2 3;line 1 0 1 4;line 2 1 3 0;"
        + "line 3 2 2 5;line 3 3 4 9;back 5 1;back 4 0;dry 0 5;dry 1 0;child 3;free 1;cut 2;";
    private static final String OTHER = "line 0 1 0 0;line 0 0 1 0;line 1 2 1 0;";
    private static final String EVENING =
        "say 0;say 2;dry;out 1;go;say 0;in 1;dry;wait;prompt;say 3;say 6;dry;";
    private static final String LOG = "heard 0;gap;heard 0;gap;";
    private static final String TOWN =
        "houses 4;wall 0 1;wall 1 3;wall 2 2;book 1 1;loud 0 2;loud 1 4;loud 2 0;loud 3 5;";

    public static void main(String[] args) {
        newObject();
        tape();
        texts();
        faults();
        books();
        deeds();
        evenings();
        waysOfBooks();
        odds();
        twoBooks();
        logs();
        towns();
        drawn();
        barsAndForces();
        emptyBook();
        images();
        Kit.finish("PromisesTest");
    }

    private static CellarPrompter whole() {
        CellarPrompter x = Kit.with(BOOK, EVENING, LOG, TOWN);
        Kit.due("second book", Kit.tell(x, 0, -1, OTHER), 1);
        return x;
    }

    private static void newObject() {
        CellarPrompter x = new CellarPrompter();
        Kit.due("NONE", CellarPrompter.NONE, -1);
        for (int sort = 0; sort < 4; sort++) {
            Kit.due("count of a new object", x.count(sort), 0);
        }
        Kit.due("fault", x.fault(0), 0);
        Kit.due("its place", x.fault(1), -1);
        for (int k = -1; k < 4; k++) {
            Kit.due("no image", x.again(k), false);
        }
        Kit.due("empty tape", x.end(0), 0);
        Kit.due("not one byte", x.end(1), -1);
        nothingThere(x, 0);
    }

    /** What all calls answer of a number under which nothing is told. */
    private static void nothingThere(CellarPrompter x, int at) {
        Kit.due("book", x.book(at, 0), -2);
        Kit.due("follower", x.follower(at, 0, 0), -1);
        Kit.due("deed", x.deed(at, -1, 0), -2);
        Kit.due("till", x.till(at, at), -1);
        Kit.due("state", x.state(at, at, 0, 0), -2);
        Kit.due("avoid", x.avoid(at, 0, 1, -1), -1);
        Kit.due("soonest", x.soonest(at, 0, 0), -1);
        Kit.due("together", x.together(at, 0, 0), -1);
        Kit.due("comes", x.comes(at, 0, 1, true, true), -1);
        Kit.due("harm", x.harm(at, 1, true, true), -1);
        Kit.due("loop", x.loop(at, true), -1);
        Kit.due("merged", x.merged(at, at, 1, -1), -1);
        Kit.due("merged", x.merged(at, at, 1, -2), -1);
        Kit.due("voice", x.voice(at, -1), -1);
        Kit.due("fits", x.fits(at, at, 0), -2);
        Kit.due("town", x.town(at, 0), -1);
        Kit.due("drawn", x.drawn(at, 1, 0, 0), -2);
        Kit.due("bar", x.bar(at, 0), -1);
        Kit.due("must", x.must(at, 0), -1);
        Kit.due("ways", x.ways(at, 1), -1);
        Kit.due("worst", x.worst(at, 1, 0, false), -1);
        Kit.due("lost", x.lost(at, false), -1);
        Kit.due("force", x.force(at, 0, 0), -1);
        Kit.due("prompts", x.prompts(at, 1, true), -1);
        Kit.due("parted", x.parted(at, at), -1);
        Kit.due("after", x.after(at, at, 0), -2);
    }

    private static void tape() {
        CellarPrompter x = new CellarPrompter();
        Kit.due("end", x.end(-1), -1);
        for (int i = 1; i <= 30; i++) {
            Kit.due("feed " + i, x.feed(0, 0, 0, 0, 0), 20 * i);
        }
        Kit.due("feed beyond", x.feed(1, 2, 3, 4, 5), -1);
        Kit.due("end 601", x.end(601), -1);
        Kit.due("end 600", x.end(600), 600);
        Kit.due("end 581", x.end(581), 581);
        Kit.due("feed to 601", x.feed(1, 2, 3, 4, 5), -1);
        Kit.due("end 580", x.end(580), 580);
        Kit.due("feed to 600", x.feed(1, 2, 3, 4, 5), 600);
        Kit.due("end 0", x.end(0), 0);
        // "go;g", "o;  ", "    ": the highest byte comes first.
        Kit.due("feed", x.feed(0x676f3b67, 0x6f3b2020, 0x20202020, 0x0a0a0a0a, 0x20202020), 20);
        Kit.due("text", x.text(1, -1), 0);
        Kit.due("deeds", x.deed(0, -1, 0), 2);
        Kit.due("the tape is empty", x.end(1), -1);
    }

    private static void texts() {
        CellarPrompter x = new CellarPrompter();
        for (int sort = 0; sort < 4; sort++) {
            Kit.put(x, "free 4;");
            Kit.due("in the place of none", x.text(sort, 0), -2);
            Kit.due("the tape is taken", x.end(1), -1);
            Kit.put(x, sort == 0 ? "free 4;" : "");
            Kit.due("the first", x.text(sort, -1), 0);
            Kit.due("in its place", x.text(sort, 0), 0);
            Kit.due("not that one", x.text(sort, 1), -2);
            Kit.due("count", x.count(sort), 1);
            Kit.due("the second", x.text(sort, -1), 1);
            Kit.due("no third", x.text(sort, -1), -2);
            Kit.due("in the second's place", x.text(sort, 1), 1);
            Kit.due("no such place", x.text(sort, 2), -2);
            Kit.due("no such place", x.text(sort, -2), -2);
            Kit.due("count", x.count(sort), 2);
        }
        Kit.due("count", x.count(-1), -2);
        Kit.due("count", x.count(4), -2);
        Kit.due("the book in the place of the first is empty", x.book(0, 1), 3);
        refused(x);
        faultyInPlace(x);
    }

    /** Each refusal takes the tape, ends the fault, and tells nothing. */
    private static void refused(CellarPrompter x) {
        Kit.due("free 7", Kit.tell(x, 0, 1, "free 7;"), 1);
        int[] sorts = {4, -1, 4, -1, Integer.MIN_VALUE, Integer.MAX_VALUE, 0, 0, 1, 2, 3, 0, 0, 0};
        int[] ats = {-1, -1, 0, 0, 0, -1, -1, 2, -1, -1, -1, -2, Integer.MIN_VALUE, Integer.MAX_VALUE};
        for (int i = 0; i < sorts.length; i++) {
            String call = "text " + sorts[i] + " " + ats[i];
            Kit.due("a fault", Kit.tell(x, 0, 0, "line"), -1);
            Kit.due("fault", x.fault(0), 1);
            Kit.due("the tape is taken with a fault, too", x.end(1), -1);
            // The second one is no text of any sort: it is not read at all.
            Kit.put(x, i % 2 == 0 ? "free 6;" : "*");
            Kit.due(call, x.text(sorts[i], ats[i]), -2);
            Kit.due(call + ", fault", x.fault(0), 0);
            Kit.due(call + ", place", x.fault(1), -1);
            Kit.due(call + ", the tape is taken", x.end(1), -1);
            Kit.due(call + ", feed", x.feed(0, 0, 0, 0, 0), 20);
            Kit.due(call + ", books", x.count(0), 2);
            Kit.due(call + ", free", x.book(1, 1), 7);
        }
        x.end(0);
    }

    private static void faultyInPlace(CellarPrompter x) {
        Kit.due("a fault", Kit.tell(x, 0, 1, "free 5; free 10;"), -1);
        Kit.due("fault", x.fault(0), 2);
        Kit.due("place", x.fault(1), 13);
        Kit.due("another what", x.fault(2), -1);
        Kit.due("another what", x.fault(-1), -1);
        Kit.due("free is as before", x.book(1, 1), 7);
        Kit.due("the tape is taken all the same", x.end(1), -1);
        Kit.due("count is as before", x.count(0), 2);
    }

    private static void fault(int sort, String text, int fault, int place) {
        CellarPrompter x = new CellarPrompter();
        Kit.due("text " + text, Kit.tell(x, sort, -1, text), fault == 0 ? 0 : -1);
        Kit.due("fault of " + text, x.fault(0), fault);
        Kit.due("place of " + text, x.fault(1), place);
        Kit.due("count behind " + text, x.count(sort), fault == 0 ? 1 : 0);
    }

    private static String times(String text, int n) {
        return text.repeat(n);
    }

    private static void faults() {
        for (int sort = 0; sort < 4; sort++) {
            fault(sort, "", 0, -1);
            fault(sort, " \n ", 0, -1);
            fault(sort, ";", 1, 0);
            fault(sort, "  7;", 1, 2);
            fault(sort, "A", 1, 0);
            fault(sort, "\t", 1, 0);
            fault(sort, "x", 1, 0);
        }
        faultsOfBooks();
        faultsOfOthers();
    }

    private static void faultsOfBooks() {
        fault(0, "line 0 0 0 0", 1, 12);
        fault(0, "line 0 0 0 0  ", 1, 14);
        fault(0, "line 0 0 0;", 1, 10);
        fault(0, "line 0 0 0 0 0;", 1, 13);
        fault(0, "line 0 0 0 0;;", 1, 13);
        fault(0, "line 0 0 000 0;", 1, 9);
        fault(0, "line0\n0 00 09;", 0, -1);
        fault(0, "lines 0 0 0 0;", 1, 0);
        fault(0, "free 1;lin", 1, 7);
        fault(0, "free 10;free 1", 1, 14);
        fault(0, "free 1;say 0;", 1, 7);
        fault(0, "free 1;" + (char) 233, 1, 7);
        fault(0, "free -1;", 1, 5);
        fault(0, "line 20 0 0 0;", 2, 5);
        fault(0, "line 0 6 0 0;", 2, 7);
        fault(0, "line 0 0 10 0;", 2, 9);
        fault(0, "line 0 0 0 10;", 2, 11);
        fault(0, "line 0 0 10 10;", 2, 9);
        fault(0, "line 19 5 9 9;", 4, 14);
        fault(0, "line 1 0 0 0;", 4, 13);
        fault(0, "line 1 0 0 0; line 0 0 0 0;", 0, -1);
        fault(0, "back 0 0;", 4, 9);
        fault(0, "back 0 1;line 0 0 0 0;", 4, 22);
        fault(0, "back 0 0;line 0 0 0 0;", 0, -1);
        fault(0, "back 20 0;", 2, 5);
        fault(0, "back 0 20;", 2, 7);
        fault(0, "dry 6 0;", 2, 4);
        fault(0, "dry 0 11;", 2, 6);
        fault(0, "dry 5 10;", 0, -1);
        fault(0, "dry;", 1, 3);
        fault(0, "child 6;", 2, 6);
        fault(0, "child 5;", 0, -1);
        fault(0, "free 9;", 0, -1);
        fault(0, "free 10;", 2, 5);
        fault(0, "cut 0;", 2, 4);
        fault(0, "cut 10;", 2, 4);
        fault(0, "cut 9;cut 1;", 0, -1);
        fault(0, times("line 0 0 0 0;", 20) + " ", 0, -1);
        fault(0, times("line 0 0 0 0;", 20) + " line 0 0 0 0;", 3, 261);
        fault(0, times("line 0 0 0 0;", 20) + " line 0 6 0 0;", 3, 261);
        fault(0, "line 0 6 0 0;" + times("line 0 0 0 0;", 20), 2, 7);
        fault(0, times("line 0 0 0 0;", 21) + "cut 0;", 3, 260);
        fault(0, "line 0 0 0 0;" + times("back 0 0;", 8), 0, -1);
        fault(0, "line 0 0 0 0;" + times("back 0 0;", 9), 3, 85);
        fault(0, times("back 0 0;", 9), 3, 72);
        fault(0, "back 3 3;cut 0;", 2, 13);
    }

    private static void faultsOfOthers() {
        fault(1, "say 20;", 2, 4);
        fault(1, "say 19;", 0, -1);
        fault(1, "out 6;", 2, 4);
        fault(1, "in 6;", 2, 3);
        fault(1, "dry 1;", 1, 4);
        fault(1, "go", 1, 2);
        fault(1, times("go;", 40), 0, -1);
        fault(1, times("go;", 41), 3, 120);
        fault(1, "say 99;" + times("go;", 40), 2, 4);
        fault(1, "line 0 0 0 0;", 1, 0);
        fault(2, "heard 6;", 2, 6);
        fault(2, "heard;", 1, 5);
        fault(2, "gap 1;", 1, 4);
        fault(2, times("gap;", 12), 0, -1);
        fault(2, times("gap;", 13), 3, 48);
        fault(2, times("gap;", 12) + "heard 6;", 3, 48);
        fault(3, "houses 1;", 2, 7);
        fault(3, "houses 10;", 2, 7);
        fault(3, "houses 2;houses 9;wall 7 9;book 8 1;loud 8 9;", 0, -1);
        fault(3, "wall 3 1;", 4, 9);
        fault(3, "wall 2 1;", 0, -1);
        fault(3, "wall 8 1;", 2, 5);
        fault(3, "wall 0 0;", 2, 7);
        fault(3, "wall 0 10;", 2, 7);
        fault(3, "book 9 0;", 2, 5);
        fault(3, "book 0 2;", 2, 7);
        fault(3, "book 4 0; ", 4, 10);
        fault(3, "loud 4 0;", 4, 9);
        fault(3, "loud 4 0;houses 5;", 0, -1);
        fault(3, "loud 0 10;", 2, 7);
        fault(3, "loud 9 0;", 2, 5);
        fault(3, "houses 9;wall 7 1;houses 8;", 4, 27);
    }

    private static void books() {
        CellarPrompter x = whole();
        int[] what = {0, 1, 2, 10, 11, 12, 15, 20, 23, 25, 106, 206, 306, 406, 100, 500, 600, 501, 506, 606, 504, 505};
        int[] due = {7, 1, 2, 5, 0, 2, 2, 0, 1, 0, 3, 3, 4, 9, 0, 1, 2, 3, -1, 0, 0, 1};
        for (int i = 0; i < what.length; i++) {
            Kit.due("book " + what[i], x.book(0, what[i]), due[i]);
        }
        int[] none = {-1, 3, 9, 16, 19, 26, 99, 107, 120, 199, 207, 307, 407, 507, 607, 700, Integer.MAX_VALUE,
            Integer.MIN_VALUE};
        for (int w : none) {
            Kit.due("book " + w, x.book(0, w), -2);
        }
        Kit.due("book 2", x.book(2, 0), -2);
        Kit.due("book -1", x.book(-1, 0), -2);
        int[][] followers = {{1, 2}, {3}, {4}, {5, 6}, {0}, {1}, {}};
        for (int l = 0; l < followers.length; l++) {
            for (int k = -1; k < 4; k++) {
                int f = k >= 0 && k < followers[l].length ? followers[l][k] : -1;
                Kit.due("follower " + l + " " + k, x.follower(0, l, k), f);
            }
        }
        Kit.due("follower of none", x.follower(0, 7, 0), -1);
        Kit.due("follower of none", x.follower(0, -1, 0), -1);
        Kit.due("follower in none", x.follower(2, 0, 0), -1);
        moreBooks();
    }

    private static void moreBooks() {
        // By numbers first, then backs as told, each but once; a line may follow itself; line 0 by a back alone.
        CellarPrompter x = Kit.with("back 0 3;back 0 1;back 0 0;back 0 3;line 2 0 0 0;line 0 0 0 0;line 2 0 0 0;"
            + "line 1 0 0 0;", null, null, null);
        int[] due = {1, 3, 0, -1};
        for (int k = 0; k < due.length; k++) {
            Kit.due("follower " + k, x.follower(0, 0, k), due[k]);
        }
        Kit.due("its own follower", x.follower(0, 2, 0), 2);
        Kit.due("line 0 by its cue", x.follower(0, 2, 1), -1);
        Kit.due("the cue as told", x.book(0, 100), 2);
        x = Kit.with("dry 0 1;dry 0 9;free 1;free 2;cut 5;cut 6;child 1;child 1;", null, null, null);
        int[] what = {0, 1, 2, 10, 21};
        int[] struck = {0, 2, 6, 9, 1};
        for (int i = 0; i < what.length; i++) {
            Kit.due("later ones strike " + what[i], x.book(0, what[i]), struck[i]);
        }
    }

    private static void deeds() {
        CellarPrompter x = whole();
        int[][] due = {{0, 0}, {0, 2}, {3, -1}, {1, 1}, {6, -1}, {0, 0}, {2, 1}, {3, -1}, {5, -1}, {4, -1}, {0, 3},
            {0, 6}, {3, -1}};
        Kit.due("deeds", x.deed(0, -1, 0), due.length);
        for (int k = 0; k < due.length; k++) {
            Kit.due("deed " + k, x.deed(0, k, 0), due[k][0]);
            Kit.due("number of deed " + k, x.deed(0, k, 1), due[k][1]);
        }
        Kit.due("deed", x.deed(0, due.length, 0), -2);
        Kit.due("deed", x.deed(0, due.length, 1), -2);
        Kit.due("deed", x.deed(0, -2, 0), -2);
        Kit.due("deed", x.deed(0, -1, 1), -2);
        Kit.due("deed", x.deed(0, 0, 2), -2);
        Kit.due("deed", x.deed(0, 0, -1), -2);
        Kit.due("deed", x.deed(1, -1, 0), -2);
    }

    private static void evenings() {
        CellarPrompter x = whole();
        Kit.due("till", x.till(0, 0), 12);
        Kit.due("till", x.till(0, 1), -1);
        Kit.due("till", x.till(2, 0), -1);
        Kit.due("till in the other", x.till(1, 0), 1);
        int[] what = {0, 1, 2, 3, 4, 5, 6, 7, 8, 9, 10, 11, 12, 13, 14, 20, 21, 25};
        int[] first = {0, -1, 0, 0, 0, 0, 0, 0, 0, 63, 0, 0, 0, 0, 0, 0, 0, 0};
        int[] fourth = {3, 2, 4, 1, 4, 1, 0, 0, 0, 61, 1, 0, 1, 0, 0, 0, 1, 0};
        int[] fifth = {4, 4, 0, 0, 4, 1, 0, 0, 1, 61, 1, 0, 1, 0, 0, 0, 1, 0};
        int[] ninth = {7, 0, 1, 2, 5, 1, 0, 0, 1, 63, 2, 0, 1, 0, 0, 0, 2, 0};
        int[] last = {10, 6, -1, 0, 11, 2, 1, 1, 1, 63, 3, 1, 1, 1, 0, 0, 2, 0};
        for (int i = 0; i < what.length; i++) {
            Kit.due("state 0 " + what[i], x.state(0, 0, 0, what[i]), first[i]);
            Kit.due("state 4 " + what[i], x.state(0, 0, 4, what[i]), fourth[i]);
            Kit.due("state 5 " + what[i], x.state(0, 0, 5, what[i]), fifth[i]);
            Kit.due("state 9 " + what[i], x.state(0, 0, 9, what[i]), ninth[i]);
            Kit.due("state 12 " + what[i], x.state(0, 0, 12, what[i]), last[i]);
        }
        int[] none = {-1, 16, 19, 26, 100};
        for (int w : none) {
            Kit.due("state, what " + w, x.state(0, 0, 0, w), -2);
        }
        Kit.due("no such state", x.state(0, 0, 13, 0), -2);
        Kit.due("no such state", x.state(0, 0, -1, 0), -2);
        Kit.due("no such state", x.state(1, 0, 2, 0), -2);
        Kit.due("no such evening", x.state(0, 1, 0, 0), -2);
        Kit.due("hushed", x.after(0, 0, 0), 2);
        Kit.due("loudest", x.after(0, 0, 1), 0);
        Kit.due("fined", x.after(0, 0, 2), 12);
        Kit.due("after", x.after(0, 0, 3), -2);
        Kit.due("after", x.after(0, 0, -1), -2);
        Kit.due("after", x.after(0, 1, 0), -2);
        Kit.due("after", x.after(2, 0, 0), -2);
        whatCanBe();
    }

    private static void till(String evening, int due) {
        CellarPrompter x = Kit.with(BOOK, evening, null, null);
        Kit.due("till of " + evening, x.till(0, 0), due);
    }

    private static void whatCanBe() {
        till("", 0);
        till("say 1;", 0);
        till("say 0;say 3;", 1);
        till("say 0;say 19;", 1);
        till("out 0;say 0;", 1);
        till("out 0;go;say 1;", 3);
        till("out 0;out 0;", 1);
        till("in 0;", 0);
        till("out 5;in 5;out 5;", 3);
        till("prompt;", 0);
        till("wait;prompt;", 2);
        till("wait;out 0;prompt;", 2);
        till("out 0;dry;", 1);
        till("dry;go;", 1);
        till("dry;wait;go;say 1;", 4);
        till("go;", 0);
        till("say 0;out 2;say 2;", 2);
        till("say 0;say 1;say 3;say 6;go;", 4);
        till("say 0;say 1;say 3;say 6;prompt;", 4);
        till("say 0;say 1;say 3;say 6;wait;prompt;", 5);
        till("say 0;say 1;say 3;say 6;wait;wait;go;", 6);
        // A fine beyond free strayings alone; of those who said as many, the least; the longest silence of all.
        CellarPrompter x = Kit.with(BOOK, "wait;wait;wait;say 0;say 2;dry;say 4;say 0;say 2;say 3;", null, null);
        Kit.due("till", x.till(0, 0), 9);
        Kit.due("strayings", x.state(0, 0, 9, 5), 2);
        Kit.due("fines", x.state(0, 0, 9, 6), 1);
        Kit.due("no fines", x.state(0, 0, 8, 6), 0);
        Kit.due("hushed", x.after(0, 0, 0), 3);
        Kit.due("loudest", x.after(0, 0, 1), 0);
        Kit.due("fined", x.after(0, 0, 2), 9);
        x = Kit.with(BOOK, "wait;out 1;", null, null);
        Kit.due("nobody", x.after(0, 0, 1), -1);
        Kit.due("no fine", x.after(0, 0, 2), -1);
        Kit.due("hushed", x.after(0, 0, 0), 1);
    }

    private static void waysOfBooks() {
        CellarPrompter x = whole();
        Kit.due("avoid 2 3", x.avoid(0, 2, 3, -1), 0);
        Kit.due("avoid 2 4", x.avoid(0, 2, 4, -1), 1);
        int[] way = {0, 1, 3, 6, -1, -1};
        for (int k = 0; k < way.length; k++) {
            Kit.due("avoid 2 20 " + k, x.avoid(0, 2, 20, k), way[k]);
        }
        Kit.due("avoid 1 5", x.avoid(0, 1, 5, -1), 2);
        Kit.due("avoid 0", x.avoid(0, 0, 1, -1), -1);
        Kit.due("avoid 0", x.avoid(0, 0, 1, 0), -1);
        Kit.due("avoid none", x.avoid(0, 9, 20, -1), 0);
        Kit.due("avoid 19", x.avoid(0, 9, 20, 19), 1);
        Kit.due("avoid 20", x.avoid(0, 9, 20, 20), -1);
        int[][] wrong = {{10, 1, -1}, {-1, 1, -1}, {9, 0, -1}, {9, 21, -1}, {9, 1, -2}};
        for (int[] w : wrong) {
            Kit.due("avoid", x.avoid(0, w[0], w[1], w[2]), -1);
        }
        Kit.due("soonest 4 0", x.soonest(0, 4, 0), -1);
        Kit.due("soonest 4 1", x.soonest(0, 4, 1), 4);
        Kit.due("soonest 2 0", x.soonest(0, 2, 0), 4);
        Kit.due("soonest 2 9", x.soonest(0, 2, 9), 2);
        Kit.due("soonest 0 0", x.soonest(0, 0, 0), 1);
        Kit.due("soonest 5", x.soonest(0, 5, 9), -1);
        Kit.due("soonest", x.soonest(0, 0, -1), -1);
        Kit.due("soonest", x.soonest(0, 0, 10), -1);
        Kit.due("soonest", x.soonest(0, 10, 0), -1);
        Kit.due("soonest", x.soonest(0, -1, 0), -1);
        Kit.due("together 1 3", x.together(0, 1, 3), 4);
        Kit.due("together 2 0", x.together(0, 2, 0), 2);
        Kit.due("together 2 3", x.together(0, 2, 3), 7);
        Kit.due("together 0 0", x.together(0, 0, 0), 1);
        Kit.due("together 0 5", x.together(0, 0, 5), -1);
        Kit.due("together", x.together(0, 0, 6), -1);
        Kit.due("together", x.together(0, -1, 0), -1);
        long[] ways = {-1, 1, 2, 2, 3, 4};
        for (int n = 0; n < ways.length; n++) {
            Kit.due("ways " + n, x.ways(0, n), ways[n]);
        }
        Kit.due("ways 12 of one row", x.ways(1, 12), 1);
        Kit.due("ways 13", x.ways(0, 13), -1);
        worstOf(x);
    }

    private static void worstOf(CellarPrompter x) {
        Kit.due("worst", x.worst(0, 4, 0, false), 12);
        Kit.due("worst", x.worst(0, 4, 1, false), 12);
        Kit.due("mild", x.worst(0, 4, 0, true), 12);
        Kit.due("mild", x.worst(0, 4, 1, true), 5);
        Kit.due("worst 1", x.worst(0, 1, 9, false), 1);
        int[][] wrong = {{0, 0}, {21, 0}, {1, -1}, {1, 10}};
        for (int[] w : wrong) {
            Kit.due("worst", x.worst(0, w[0], w[1], false), -1);
        }
        Kit.due("worst 20 9", x.worst(0, 20, 9, false) > 0, true);
        Kit.due("loop", x.loop(0, false), 3);
        Kit.due("length", x.loop(0, true), 4);
        Kit.due("no loop", x.loop(1, false), 0);
        Kit.due("length", x.loop(1, true), 3);
        Kit.due("lost", x.lost(0, false), 3);
        Kit.due("lost length", x.lost(0, true), 2);
        Kit.due("lost", x.lost(1, false), 1);
        Kit.due("lost length", x.lost(1, true), 1);
        CellarPrompter y = Kit.with("line 0 0 0 0;", null, null, null);
        Kit.due("no line but line 0", y.lost(0, false), -1);
        Kit.due("no line but line 0", y.lost(0, true), -1);
    }

    private static void fraction(String call, long over, long under, long dueOver, long dueUnder) {
        Kit.due(call, over, dueOver);
        Kit.due(call + " under", under, dueUnder);
    }

    private static void odds() {
        CellarPrompter x = whole();
        int[][] due = {{1, 1, 0, 1}, {1, 2, 1, 2}, {2, 4, 1, 5}, {4, 4, 1, 20}, {0, 9, 1, 2}, {7, 9, 0, 1}};
        for (int[] d : due) {
            fraction("comes " + d[0] + " " + d[1], x.comes(0, d[0], d[1], false, false),
                x.comes(0, d[0], d[1], false, true), d[2], d[3]);
        }
        fraction("comes, prompter", x.comes(0, 2, 4, true, false), x.comes(0, 2, 4, true, true), 1, 1);
        fraction("comes, prompter", x.comes(0, 4, 9, true, false), x.comes(0, 4, 9, true, true), 0, 1);
        fraction("harm 2", x.harm(0, 2, false, false), x.harm(0, 2, false, true), 3, 2);
        fraction("harm 4", x.harm(0, 4, false, false), x.harm(0, 4, false, true), 7, 2);
        fraction("harm 4, prompter", x.harm(0, 4, true, false), x.harm(0, 4, true, true), 12, 1);
        fraction("prompts 1", x.prompts(0, 1, false), x.prompts(0, 1, true), 1, 2);
        fraction("prompts 4", x.prompts(0, 4, false), x.prompts(0, 4, true), 6, 5);
        fraction("prompts 20 of three", x.prompts(1, 20, false), x.prompts(1, 20, true), 3, 5);
        int[] wrong = {0, -1, 10};
        for (int n : wrong) {
            Kit.due("comes", x.comes(0, 0, n, false, false), -1);
            Kit.due("harm", x.harm(0, n, false, true), -1);
        }
        Kit.due("comes", x.comes(0, 10, 1, false, false), -1);
        Kit.due("comes", x.comes(0, -1, 1, false, true), -1);
        Kit.due("prompts", x.prompts(0, 0, false), -1);
        Kit.due("prompts", x.prompts(0, 21, true), -1);
        sureOdds();
    }

    private static void sureOdds() {
        CellarPrompter x = Kit.with("line 0 0 0 0;line 0 1 1 4;line 0 0 2 6;dry 0 0;dry 1 10;", null, null, null);
        fraction("who always dries", x.comes(0, 1, 2, false, false), x.comes(0, 1, 2, false, true), 0, 1);
        fraction("the second for him", x.comes(0, 2, 2, false, false), x.comes(0, 2, 2, false, true), 1, 1);
        fraction("its harm", x.harm(0, 9, false, false), x.harm(0, 9, false, true), 6, 1);
        fraction("harm with the prompter", x.harm(0, 9, true, false), x.harm(0, 9, true, true), 4, 1);
        x = Kit.with("line 0 0 0 9;dry 0 10;", null, null, null);
        fraction("it is over at once", x.harm(0, 9, false, false), x.harm(0, 9, false, true), 0, 1);
        x = Kit.with("line 0 0 0 9;back 0 0;dry 0 1;", null, null, null);
        fraction("nine of ten", x.comes(0, 0, 9, false, false), x.comes(0, 0, 9, false, true), 9, 10);
        fraction("harm again and again", x.harm(0, 9, false, false), x.harm(0, 9, false, true), 49618940391L, 1000000000L);
    }

    private static void twoBooks() {
        CellarPrompter x = whole();
        int[] row = {0, 1, 0, 2, -1};
        Kit.due("merged", x.merged(0, 1, 3, -1), 4);
        for (int k = 0; k < row.length; k++) {
            Kit.due("merged " + k, x.merged(0, 1, 3, k), row[k]);
        }
        Kit.due("common", x.merged(0, 1, 3, -2), 2);
        Kit.due("merged 12", x.merged(0, 1, 12, -1), 12);
        Kit.due("common 12", x.merged(1, 0, 12, -2), 3);
        Kit.due("with itself", x.merged(0, 0, 12, -1), 12);
        Kit.due("merged", x.merged(0, 1, 0, -1), -1);
        Kit.due("merged", x.merged(0, 1, 13, -1), -1);
        Kit.due("merged", x.merged(0, 1, 0, -2), -1);
        Kit.due("merged", x.merged(0, 1, 3, -3), -1);
        Kit.due("merged", x.merged(0, 2, 3, -1), -1);
        Kit.due("merged", x.merged(-1, 0, 3, -1), -1);
        Kit.due("parted", x.parted(0, 1), 0);
        Kit.due("parted from itself", x.parted(0, 0), -1);
        Kit.due("both end", x.parted(1, 1), -1);
        Kit.due("parted", x.parted(0, 2), -1);
        Kit.due("in its place", Kit.tell(x, 0, 1, "line 0 0 9 9;line 0 1 9 9;line 1 0 9 9;"), 1);
        Kit.due("nobody in one of them", x.parted(0, 1), 3);
        Kit.due("nobody in one of them", x.parted(1, 0), 3);
        Kit.due("in its place", Kit.tell(x, 0, 0, "line 0 0 0 0;line 0 0 0 0;back 1 0;"), 0);
        StringBuilder long1 = new StringBuilder("line 0 0 0 0;");
        for (int l = 0; l < 18; l++) {
            long1.append("line " + l + " 0 0 0;");
        }
        Kit.due("nineteen alike", Kit.tell(x, 0, 1, long1.toString()), 1);
        Kit.due("the last but one", x.parted(0, 1), 19);
        Kit.due("twenty alike", Kit.tell(x, 0, 1, long1 + "line 18 0 0 0;"), 1);
        Kit.due("in none up to 19", x.parted(0, 1), -1);
    }

    private static void logs() {
        CellarPrompter x = whole();
        Kit.due("second log", Kit.tell(x, 2, -1, "heard 5;"), 1);
        int[] voices = {4, 0, 6, 0, 6, -1};
        for (int k = -1; k < 5; k++) {
            Kit.due("voice " + k, x.voice(0, k), voices[k + 1]);
        }
        Kit.due("voice -2", x.voice(0, -2), -1);
        Kit.due("voice", x.voice(1, 0), 5);
        Kit.due("voice", x.voice(2, -1), -1);
        int[] what = {0, 1, 2, 10, 11, 12, 13, 30, 31, 32, 33};
        long[] due = {2, 0, 3, 0, 1, 3, 5, 0, 1, 3, -1};
        for (int i = 0; i < what.length; i++) {
            Kit.due("fits " + what[i], x.fits(0, 0, what[i]), due[i]);
        }
        Kit.due("none fits", x.fits(0, 1, 0), 0);
        int[] none = {1, 2, 10, 30};
        for (int w : none) {
            Kit.due("none fits, " + w, x.fits(0, 1, w), -1);
        }
        int[] wrong = {-1, 3, 9, 14, 22, 29, 34, 42, Integer.MAX_VALUE};
        for (int w : wrong) {
            Kit.due("fits, what " + w, x.fits(0, 0, w), -2);
        }
        Kit.due("fits", x.fits(0, 1, 11), -2);
        Kit.due("fits", x.fits(2, 0, 0), -2);
        Kit.due("fits", x.fits(0, 2, 0), -2);
        Kit.due("no gap", Kit.tell(x, 2, 1, "heard 0;heard 1;"), 1);
        Kit.due("it fits", x.fits(0, 1, 0), 1);
        Kit.due("no guess", x.fits(0, 1, 2), -1);
        Kit.due("a straying", Kit.tell(x, 2, 1, "gap;heard 2;gap;"), 1);
        Kit.due("fewest", x.fits(0, 1, 1), 1);
        Kit.due("guess, the first of several", x.fits(0, 1, 2), 0);
        Kit.due("longer than the row", Kit.tell(x, 2, 1, "gap;gap;gap;gap;"), 1);
        Kit.due("shorter ways don't fit", x.fits(1, 1, 0), 0);
        noVoices(Kit.with("line 0 0 0 0;line 0 1 0 0;back 1 0;", null, "", null));
    }

    private static void towns() {
        CellarPrompter x = whole();
        int[] what = {0, 1, 2, 3, 4, 5, 10, 11, 12, 20, 21, 30, 31, 32, 33, 40, 41, 42, 43};
        int[] due = {4, 2, 2, 5, 1, 3, 1, 3, 2, 0, 1, 2, 4, 0, 5, 3, 7, 0, 12};
        for (int i = 0; i < what.length; i++) {
            Kit.due("town " + what[i], x.town(0, what[i]), due[i]);
        }
        int[] none = {-1, 6, 9, 13, 18, 19, 24, 29, 34, 44, 49, 50, 100};
        for (int w : none) {
            Kit.due("town " + w, x.town(0, w), -1);
        }
        Kit.due("no town", x.town(1, 0), -1);
        Kit.due("second town", Kit.tell(x, 3, -1, ""), 1);
        int[] atFirst = {4, 1, 2, 5, 0, 1, 2, 2, 2, 0, 0, 3, 3, 3, 3, 3, 7, 14, 12};
        for (int i = 0; i < what.length; i++) {
            Kit.due("town at first " + what[i], x.town(1, what[i]), atFirst[i]);
        }
        Kit.due("quiet", Kit.tell(x, 3, 1, "houses 2;loud 0 0;loud 1 0;"), 1);
        int[] quiet = {2, 0, 0, 0, 0, 0};
        for (int w = 0; w < quiet.length; w++) {
            Kit.due("quiet town " + w, x.town(1, w), quiet[w]);
        }
        Kit.due("loud", Kit.tell(x, 3, 1, "houses 9;wall 0 1;loud 0 9;book 0 1;book 8 1;"), 1);
        Kit.due("hush", x.town(1, 5), 8);
        Kit.due("wrong", x.town(1, 4), 2);
        Kit.due("the ninth house", x.town(1, 48), 384);
        Kit.due("no wall behind it", x.town(1, 18), -1);
    }

    private static void drawn() {
        CellarPrompter x = whole();
        Kit.due("none drawn, line", x.drawn(0, 5, 0, 1), -1);
        Kit.due("none drawn, room", x.drawn(0, 5, 0, 9), 63);
        // Seed 0: x is 12345, shifted right by 16 it is 0: what is due is said.
        Kit.due("one drawn", x.drawn(0, 0, 1, 1), 0);
        Kit.due("one drawn, minute", x.drawn(0, 0, 1, 0), 1);
        Kit.due("one drawn, harm", x.drawn(0, 0, 1, 4), 1);
        int[] wrong = {-1, 61};
        for (int n : wrong) {
            Kit.due("drawn", x.drawn(0, 0, n, 0), -2);
        }
        int[] what = {-1, 16, 26};
        for (int w : what) {
            Kit.due("drawn", x.drawn(0, 0, 1, w), -2);
        }
        Kit.due("drawn", x.drawn(2, 0, 1, 0), -2);
    }

    private static void barsAndForces() {
        CellarPrompter x = whole();
        Kit.due("bar", x.bar(0, 4), 1);
        Kit.due("bar of none", x.bar(0, 9), 0);
        Kit.due("bar", x.bar(0, 10), -1);
        Kit.due("bar", x.bar(0, -1), -1);
        Kit.due("bar of the first", x.bar(1, 0), 2);
        Kit.due("bar, the least of several", x.bar(1, 1), 1);
        Kit.due("must", x.must(0, 4), 11);
        Kit.due("must", x.must(0, 1), 1);
        Kit.due("must of the first", x.must(0, 0), 0);
        Kit.due("must of none", x.must(0, 9), -1);
        Kit.due("must", x.must(0, 10), -1);
        Kit.due("force", x.force(0, 4, 1), 4);
        Kit.due("force", x.force(0, 4, 62), -1);
        Kit.due("force", x.force(0, 2, 1), 2);
        Kit.due("force", x.force(0, 2, 0), -1);
        Kit.due("force", x.force(0, 0, 0), 1);
        Kit.due("force", x.force(1, 1, 0), 2);
        Kit.due("force", x.force(0, 0, 64), -1);
        Kit.due("force", x.force(0, 0, -1), -1);
        Kit.due("force", x.force(0, 10, 0), -1);
        CellarPrompter y = Kit.with("line 0 5 0 0;line 0 1 2 0;line 0 2 2 0;", null, null, null);
        Kit.due("one of two, or the one who says the first", y.bar(0, 2), 32);
        y = Kit.with("line 0 5 0 0;line 0 1 1 0;line 0 2 1 0;line 1 3 2 0;line 2 3 2 0;", null, null, null);
        Kit.due("the one who says both", y.bar(0, 2), 8);
        Kit.due("neither of two is needed", y.must(0, 2), 1);
        Kit.due("the others choose the later", Kit.with("line 0 0 0 0;line 0 0 1 0;line 0 0 2 0;line 2 0 1 0;", null,
            null, null).force(0, 1, 0), 3);
    }

    private static void emptyBook() {
        CellarPrompter x = Kit.with("", "wait;say 0;", "", "");
        Kit.due("lines", x.book(0, 0), 0);
        Kit.due("till", x.till(0, 0), 1);
        Kit.due("due", x.state(0, 0, 1, 2), -1);
        Kit.due("silence", x.state(0, 0, 1, 3), 1);
        Kit.due("avoid", x.avoid(0, 0, 1, -1), -1);
        Kit.due("soonest", x.soonest(0, 0, 0), -1);
        Kit.due("together", x.together(0, 0, 0), -1);
        fraction("comes", x.comes(0, 0, 1, false, false), x.comes(0, 0, 1, false, true), 0, 1);
        fraction("harm", x.harm(0, 1, true, false), x.harm(0, 1, true, true), 0, 1);
        fraction("prompts", x.prompts(0, 1, false), x.prompts(0, 1, true), 0, 1);
        Kit.due("loop", x.loop(0, false), 0);
        Kit.due("length", x.loop(0, true), 0);
        Kit.due("merged", x.merged(0, 0, 1, -1), 0);
        Kit.due("merged", x.merged(0, 0, 1, 0), -1);
        Kit.due("common", x.merged(0, 0, 1, -2), 0);
        Kit.due("voices", x.voice(0, -1), 0);
        noVoices(x);
        Kit.due("a log with a voice", Kit.tell(x, 2, -1, "gap;"), 1);
        Kit.due("nobody says it", x.fits(0, 1, 0), 0);
        Kit.due("nobody says it", x.fits(0, 1, 2), -1);
        Kit.due("drawn", x.drawn(0, 0, 0, 0), -2);
        Kit.due("bar", x.bar(0, 0), 0);
        Kit.due("must", x.must(0, 0), -1);
        Kit.due("ways", x.ways(0, 1), 0);
        Kit.due("worst", x.worst(0, 1, 0, false), -1);
        Kit.due("lost", x.lost(0, true), -1);
        Kit.due("force", x.force(0, 0, 63), -1);
        Kit.due("parted", x.parted(0, 0), -1);
        Kit.due("hushed", x.after(0, 0, 0), 1);
        Kit.due("loudest", x.after(0, 0, 1), -1);
    }

    /** Of a log without voices one way fits, the row without lines. */
    private static void noVoices(CellarPrompter x) {
        Kit.due("no voices, fits", x.fits(0, 0, 0), 1);
        Kit.due("no voices, fewest", x.fits(0, 0, 1), 0);
        Kit.due("no voices, no gap", x.fits(0, 0, 2), -1);
        Kit.due("no voices, no first", x.fits(0, 0, 10), -2);
        Kit.due("no voices, none sure", x.fits(0, 0, 30), -2);
        Kit.due("no voices, another what", x.fits(0, 0, 3), -2);
        Kit.due("no such book", x.fits(1, 0, 0), -2);
        Kit.due("no such log", x.fits(0, 1, 0), -2);
    }

    private static void images() {
        CellarPrompter x = whole();
        Kit.due("a fault", Kit.tell(x, 3, 0, "houses 1;"), -1);
        Kit.put(x, "free 5;");
        Kit.due("image", x.image(-1), false);
        Kit.due("image", x.image(3), false);
        Kit.due("no image yet", x.again(2), false);
        Kit.due("image", x.image(2), true);
        Kit.due("the tape is taken", x.text(0, 0), 0);
        Kit.due("another evening", Kit.tell(x, 1, -1, "go;"), 1);
        Kit.due("another log", Kit.tell(x, 2, 0, "gap;"), 0);
        Kit.due("another town", Kit.tell(x, 3, 0, ""), 0);
        Kit.due("image", x.image(0), true);
        Kit.due("no image 1", x.again(1), false);
        for (int round = 0; round < 2; round++) {
            Kit.due("again", x.again(2), true);
            Kit.due("the fault", x.fault(0), 2);
            Kit.due("its place", x.fault(1), 7);
            Kit.due("the book", x.book(0, 0), 7);
            Kit.due("its followers", x.follower(0, 3, 1), 6);
            Kit.due("the other book", x.book(1, 0), 3);
            Kit.due("evenings", x.count(1), 1);
            Kit.due("till", x.till(0, 0), 12);
            Kit.due("harm", x.state(0, 0, 12, 4), 11);
            Kit.due("a child", x.book(0, 23), 1);
            Kit.due("who dries", x.book(0, 10), 5);
            Kit.due("a scene", x.book(0, 306), 4);
            Kit.due("the log", x.voice(0, -1), 4);
            Kit.due("the town", x.town(0, 30), 2);
            Kit.due("the tape", x.text(0, 1), 1);
            Kit.due("told by it", x.book(1, 1), 5);
        }
        Kit.due("again", x.again(0), true);
        Kit.due("no fault", x.fault(0), 0);
        Kit.due("evenings", x.count(1), 2);
        Kit.due("the book", x.book(0, 0), 0);
        Kit.due("no tape", x.end(1), -1);
        Kit.due("image over image", x.image(2), true);
        Kit.due("again", x.again(2), true);
        Kit.due("the book", x.book(0, 0), 0);
        Kit.due("the town", x.town(0, 30), 3);
        Kit.due("again", x.again(-1), false);
        Kit.due("again", x.again(3), false);
    }
}

/** The boundaries of books: Terms 3 and 6; promises 6 and 7 (book, follower), 11 to 16 and 22 to 28. */
public final class BoundaryBooksTest {
    private static final String ONE = "line 0 0 0 0;";
    private static final String TWENTY = ONE.repeat(20);
    /** Line 0, behind which 1 is due, 2 a straying; 0 follows both. */
    private static final String FORK = "line 0 0 0 1;line 0 1 1 2;line 0 2 2 4;back 1 0;back 2 0;";
    /** Two lines, each of which follows each: by next 0, 1, 1, 1, .. */
    private static final String BOTH = "line 0 0 0 0;line 1 1 1 1;back 0 1;back 0 0;back 1 0;";

    public static void main(String[] args) {
        bookNumbers();
        fullBook();
        followerNumbers();
        followersInOrder();
        avoidNumbers();
        avoiding();
        soonestNumbers();
        soonest();
        togetherNumbers();
        together();
        comesNumbers();
        comes();
        secondInPlace();
        harmNumbers();
        harm();
        loops();
        bars();
        musts();
        ways();
        worstNumbers();
        worst();
        lost();
        forceNumbers();
        force();
        prompts();
        emptyBook();
        Kit.finish("BoundaryBooksTest");
    }

    /** Promise 6: each what; -2 if there is none such of any, or for another what. */
    private static void bookNumbers() {
        CellarPrompter x = Edges.book("line 1 5 9 9;line 0 4 8 7;line 0 0 0 0;dry 0 10;dry 5 0;child 5;child 0;free 0;cut 9;");
        Edges.only("book", -2, what -> x.book(0, what), 0, 2, 10, 15, 20, 25, 100, 102, 200, 202, 300, 302, 400, 402,
            500, 502, 600, 602);
        Edges.range("book of a book", 0, 0, -2, b -> x.book(b, 0));
        Edges.row("book", -2, what -> x.book(0, what), 3, 0, 9);
        Edges.row("dries", -2, p -> x.book(0, 10 + p), 10, 2, 2, 2, 2, 0);
        Edges.row("child", -2, p -> x.book(0, 20 + p), 1, 0, 0, 0, 0, 1);
        Edges.row("cue", -2, l -> x.book(0, 100 + l), 1, 0, 0);
        Edges.row("who", -2, l -> x.book(0, 200 + l), 5, 4, 0);
        Edges.row("scene", -2, l -> x.book(0, 300 + l), 9, 8, 0);
        Edges.row("harm as told, a child's, too", -2, l -> x.book(0, 400 + l), 9, 7, 0);
        Edges.row("next", -2, l -> x.book(0, 500 + l), 1, -1, -1);
        Edges.row("how many follow", -2, l -> x.book(0, 600 + l), 2, 0, 0);
        Kit.due("a second book", Kit.tell(x, 0, -1, ""), 1);
        Edges.range("book of two books", 0, 1, -2, b -> x.book(b, 0));
        Edges.only("book without lines", -2, what -> x.book(1, what), 0, 2, 10, 15, 20, 25);
    }

    /** As many lines as may be, and the greatest numbers. */
    private static void fullBook() {
        CellarPrompter x = Edges.book("line 19 5 9 9;".repeat(20) + "back 19 19;back 0 19;");
        Edges.only("full book", -2, what -> x.book(0, what), 0, 2, 10, 15, 20, 25, 100, 119, 200, 219, 300, 319,
            400, 419, 500, 519, 600, 619);
        Kit.due("lines", x.book(0, 0), 20);
        Kit.due("the last cue", x.book(0, 119), 19);
        Kit.due("the last who", x.book(0, 219), 5);
        Kit.due("the last scene", x.book(0, 319), 9);
        Kit.due("the last harm", x.book(0, 419), 9);
        Kit.due("the last one's next", x.book(0, 519), 1);
        Kit.due("how many follow the last one, itself too", x.book(0, 619), 19);
        Kit.due("the first one's next", x.book(0, 500), 19);
        Kit.due("how many follow line 18", x.book(0, 618), 0);
    }

    /** Promise 7: the k-th follower; NONE if there are not so many, or none such of either. */
    private static void followerNumbers() {
        CellarPrompter x = Edges.book(FORK);
        Edges.row("follower of 0", -1, k -> x.follower(0, 0, k), 1, 2);
        Edges.row("follower of 2", -1, k -> x.follower(0, 2, k), 0);
        Edges.range("follower k", 0, 1, -1, k -> x.follower(0, 0, k));
        Edges.range("follower of a line", 0, 2, -1, l -> x.follower(0, l, 0));
        Edges.range("follower in a book", 0, 0, -1, b -> x.follower(b, 0, 0));
        Edges.row("follower of a line that has none", -1, k -> Edges.book(ONE).follower(0, 0, k));
        CellarPrompter full = Edges.book(TWENTY + "back 0 0;");
        Edges.range("each line follows line 0", 0, 19, -1, k -> full.follower(0, 0, k));
        for (int k = 0; k < 19; k++) {
            Kit.due("by numbers " + k, full.follower(0, 0, k), k + 1);
        }
        Kit.due("line 0 by a back", full.follower(0, 0, 19), 0);
        Edges.range("a full book's line", 0, 0, -1, l -> full.follower(0, l, 0));
    }

    /** By cues by numbers, then by backs as told, each but once; line 0 follows none by its cue. */
    private static void followersInOrder() {
        CellarPrompter x = Edges.book("back 0 2;back 0 0;back 0 2;back 0 1;back 1 2;back 1 0;back 1 2;back 0 0;"
            + "line 0 0 0 0;line 0 0 0 0;line 2 0 0 0;");
        Edges.row("follower of 0", -1, k -> x.follower(0, 0, k), 1, 2, 0);
        Edges.row("follower of 1", -1, k -> x.follower(0, 1, k), 2, 0);
        Edges.row("a line whose cue it is itself", -1, k -> x.follower(0, 2, k), 2);
        CellarPrompter y = Edges.book("line 1 0 0 0;line 1 0 0 0;");
        Edges.row("line 0 does not follow its cue", -1, k -> y.follower(0, 1, k), 1);
        Kit.due("line 0's cue is as told", y.book(0, 100), 1);
        Kit.due("line 0 does not follow itself by its cue", Edges.book(ONE).book(0, 600), 0);
        Kit.due("line 0 follows itself by a back", Edges.book(ONE + "back 0 0;").book(0, 500), 0);
    }

    /** Promise 11: scenes 0 to 9, n 1 to 20, k from NONE on; the way's k-th line, NONE if it is not so long. */
    private static void avoidNumbers() {
        CellarPrompter x = Edges.book(FORK);
        Edges.range("avoid n", 1, 20, -1, n -> x.avoid(0, 9, n, -1));
        Edges.range("avoid n, line 0", 1, 20, -1, n -> x.avoid(0, 9, n, 0));
        Edges.range("avoid in a book", 0, 0, -1, b -> x.avoid(b, 9, 5, -1));
        CellarPrompter other = Edges.book("line 0 0 5 0;");
        for (int s = -2; s <= 11; s++) {
            Kit.due("avoid scene " + s, other.avoid(0, s, 1, -1), s == 5 || s < 0 || s > 9 ? -1 : 0);
            Kit.due("avoid scene " + s + ", line 0", other.avoid(0, s, 1, 0), s == 5 || s < 0 || s > 9 ? -1 : 0);
        }
        // k -1 asks how many strayings there are, so it is left out here.
        for (int n = 1; n <= 20; n++) {
            int of = n;
            Edges.range("avoid " + n + ", the k-th line", 0, n - 1, -1, k -> k == -1 ? -1 : x.avoid(0, 9, of, k));
            Kit.due("avoid " + n + ", k -2", x.avoid(0, 9, n, -2), -1);
        }
        // A way may be shorter than n, if nothing follows its last line.
        CellarPrompter shorter = Edges.book(Edges.rowBy(0, 0, 0));
        for (int n = 1; n <= 20; n++) {
            for (int k = 0; k <= n; k++) {
                Kit.due("avoid " + n + " of three lines, " + k, shorter.avoid(0, 9, n, k), k < Math.min(n, 3) ? k : -1);
            }
            Kit.due("no straying", shorter.avoid(0, 9, n, -1), 0);
        }
    }

    /** AVOID: the fewest strayings of a way without the scene, the first such way by numbers. */
    private static void avoiding() {
        CellarPrompter x = Edges.book(FORK);
        Kit.due("line 0 is of it", x.avoid(0, 0, 1, -1), -1);
        Kit.due("line 0 is of it, its line", x.avoid(0, 0, 1, 0), -1);
        // The second line is the first one of scene 1: one straying each time line 0 is behind.
        for (int n = 1; n <= 20; n++) {
            Kit.due("avoid 1, " + n, x.avoid(0, 1, n, -1), n / 2);
            Kit.due("avoid 2, " + n, x.avoid(0, 2, n, -1), 0);
        }
        Kit.due("avoid 1, the last line", x.avoid(0, 1, 20, 19), 2);
        // Of ways with as few strayings the first by numbers, though its followers were told later.
        CellarPrompter y = Edges.book("line 0 0 0 0;line 0 0 9 0;line 0 0 0 0;line 0 0 0 0;line 0 0 0 0;");
        Kit.due("the first by numbers", y.avoid(0, 9, 2, 1), 2);
        y = Edges.book("line 0 0 0 0;line 0 0 9 0;line 1 0 0 0;line 1 0 0 0;back 0 3;back 0 2;");
        Kit.due("the first by numbers, not as told", y.avoid(0, 9, 2, 1), 2);
        Kit.due("one straying", y.avoid(0, 9, 2, -1), 1);
        // By next the third line is of it: up to two lines nothing is to be avoided.
        y = Edges.book("line 0 0 0 0;line 0 0 0 0;line 0 0 0 0;line 1 0 9 0;line 2 0 0 0;");
        Kit.due("two lines", y.avoid(0, 9, 2, -1), 0);
        Kit.due("two lines, the last", y.avoid(0, 9, 2, 1), 1);
        Kit.due("three lines", y.avoid(0, 9, 3, -1), 1);
        Kit.due("three lines, the second", y.avoid(0, 9, 3, 1), 2);
        Kit.due("three lines, the last", y.avoid(0, 9, 3, 2), 4);
        // Where all go through the scene, there is none; up to the line ahead of it there is one.
        y = Edges.book(Edges.rowTo(20, 0, 9, 0));
        Kit.due("the twentieth line is of it", y.avoid(0, 9, 20, -1), -1);
        Kit.due("the twentieth line is of it, line 0", y.avoid(0, 9, 20, 0), -1);
        Kit.due("up to the nineteenth", y.avoid(0, 9, 19, -1), 0);
    }

    /** Promise 12: scenes 0 to 9, k 0 to 9; NONE if it never comes. */
    private static void soonestNumbers() {
        CellarPrompter x = Edges.book(FORK);
        Edges.range("soonest scene", 0, 2, -1, s -> x.soonest(0, s, 1));
        Edges.range("soonest k", 0, 9, -1, k -> x.soonest(0, 0, k));
        Edges.range("soonest in a book", 0, 0, -1, b -> x.soonest(b, 0, 0));
        CellarPrompter nine = Edges.book("line 0 0 9 0;");
        Edges.range("soonest scene 9", 9, 9, -1, s -> nine.soonest(0, s, 0));
    }

    /** SOONEST: the fewest lines up to the first one of the scene (it counts), by k strayings at most. */
    private static void soonest() {
        CellarPrompter x = Edges.book(FORK);
        Kit.due("line 0 counts", x.soonest(0, 0, 0), 1);
        Kit.due("the second line", x.soonest(0, 1, 0), 2);
        Kit.due("not without a straying", x.soonest(0, 2, 0), -1);
        Kit.due("by one straying", x.soonest(0, 2, 1), 2);
        for (int lines = 1; lines <= 20; lines++) {
            Kit.due("a row of " + lines, Edges.book(Edges.rowTo(lines, 0, 9, 0)).soonest(0, 9, 0), lines);
        }
        // Behind each even line the odd one is due, which leads nowhere; the next even one is a straying.
        StringBuilder text = new StringBuilder("line 0 0 0 0;");
        for (int pair = 0; pair < 9; pair++) {
            text.append(Edges.line(2 * pair, 0, 0, 0)).append(Edges.line(2 * pair, 0, pair + 1, 0));
        }
        CellarPrompter y = Edges.book(text.toString());
        for (int scene = 1; scene <= 9; scene++) {
            for (int k = 0; k <= 9; k++) {
                Kit.due("scene " + scene + " by " + k, y.soonest(0, scene, k), k >= scene ? scene + 1 : -1);
            }
        }
        // The longer way by next, the shorter one by a straying.
        CellarPrompter z = Edges.book("line 0 0 0 0;line 0 0 0 0;line 1 0 0 0;line 2 0 9 0;back 0 3;");
        Kit.due("by next", z.soonest(0, 9, 0), 4);
        Kit.due("by a straying", z.soonest(0, 9, 1), 2);
        Kit.due("a line that none goes to", Edges.book("line 0 0 0 0;line 1 0 9 0;").soonest(0, 9, 9), -1);
    }

    /** Promise 13: people 0 to 5; NONE if never. */
    private static void togetherNumbers() {
        CellarPrompter x = Edges.book(Edges.rowBy(0, 1, 2, 3, 4, 5));
        Edges.range("together a", 0, 5, -1, a -> x.together(0, a, 0));
        Edges.range("together b", 0, 5, -1, b -> x.together(0, 0, b));
        Edges.range("together in a book", 0, 0, -1, b -> x.together(b, 0, 1));
        Kit.due("neither", x.together(0, -1, -1), -1);
        Kit.due("neither", x.together(0, 6, 6), -1);
    }

    /** TOGETHER: the fewest lines of a way up to one where both have said one. */
    private static void together() {
        CellarPrompter x = Edges.book(Edges.rowBy(0, 1, 2, 3, 4, 5));
        for (int a = 0; a <= 5; a++) {
            for (int b = 0; b <= 5; b++) {
                Kit.due("together " + a + " " + b, x.together(0, a, b), Math.max(a, b) + 1);
            }
        }
        Kit.due("line 0 alone", Edges.book(ONE).together(0, 0, 0), 1);
        Kit.due("line 0 alone, two people", Edges.book(ONE).together(0, 0, 1), -1);
        CellarPrompter apart = Edges.book("line 0 0 0 0;line 0 1 0 0;line 0 2 0 0;");
        Kit.due("not on one way", apart.together(0, 1, 2), -1);
        Kit.due("by a straying", apart.together(0, 2, 0), 2);
        Kit.due("who says none", apart.together(0, 0, 3), -1);
        Kit.due("who says none, twice", apart.together(0, 3, 3), -1);
        Kit.due("a row of twenty", Edges.book(Edges.rowTo(20, 5, 0, 0)).together(0, 0, 5), 20);
        // To the end of one row, back to line 0, to the end of the other one: longer than the book.
        StringBuilder text = new StringBuilder("line 0 0 0 0;");
        for (int l = 1; l <= 19; l++) {
            text.append(Edges.line(l == 10 ? 0 : l - 1, l == 9 ? 1 : l == 19 ? 2 : 0, 0, 0));
        }
        Kit.due("there and back", Edges.book(text + "back 9 0;").together(0, 1, 2), 21);
        Kit.due("no way back", Edges.book(text.toString()).together(0, 1, 2), -1);
        Kit.due("there and back, both", Edges.book(text + "back 9 0;back 19 0;").together(0, 2, 1), 21);
    }

    /** Promise 14: scenes 0 to 9, n 1 to 9. */
    private static void comesNumbers() {
        CellarPrompter x = Edges.book(FORK);
        for (int i = 0; i < 4; i++) {
            boolean prompter = i % 2 == 0;
            boolean under = i / 2 == 0;
            Edges.range("comes scene", 0, 9, -1, s -> x.comes(0, s, 3, prompter, under));
            Edges.range("comes n", 1, 9, -1, n -> x.comes(0, 1, n, prompter, under));
            Edges.range("comes in a book", 0, 0, -1, b -> x.comes(b, 1, 3, prompter, under));
        }
    }

    private static void comes(String book, int scene, int n, boolean prompter, long above, long below) {
        CellarPrompter x = Edges.book(book);
        Edges.fraction("comes " + scene + " " + n + " in " + book, x.comes(0, scene, n, prompter, false),
            x.comes(0, scene, n, prompter, true), above, below);
    }

    /** COMES: among the first n; a fraction in least terms, from 0 / 1 to 1 / 1. */
    private static void comes() {
        for (int lines = 1; lines <= 9; lines++) {
            String book = Edges.rowTo(lines, 0, 9, 0);
            for (int n = 1; n <= 9; n++) {
                comes(book, 9, n, true, n >= lines ? 1 : 0, 1);
                comes(book + "dry 0 0;", 9, n, false, n >= lines ? 1 : 0, 1);
                comes(book + "dry 0 10;", 9, n, false, 0, 1);
            }
        }
        String one = "line 0 0 7 0;";
        int[][] tenths = {{1, 1}, {9, 10}, {4, 5}, {7, 10}, {3, 5}, {1, 2}, {2, 5}, {3, 10}, {1, 5}, {1, 10}, {0, 1}};
        for (int dry = 0; dry <= 10; dry++) {
            // Line 0 alone is there at first: if he dries it is over.
            comes(one + "dry 0 " + dry + ";", 7, 9, false, tenths[dry][0], tenths[dry][1]);
            comes(one + "dry 0 " + dry + ";", 7, 9, true, 1, 1);
        }
        comes(one, 7, 1, false, 4, 5);
        comes(one, 6, 9, false, 0, 1);
        comes(one, 6, 9, true, 0, 1);
        // 9 of 10 nine times: nothing is left out of the fraction.
        comes(Edges.rowTo(9, 0, 9, 0) + "dry 0 1;", 9, 9, false, 387420489L, 1000000000L);
        comes(Edges.rowTo(9, 0, 9, 0) + "dry 0 9;", 9, 9, false, 1, 1000000000L);
        comes(Edges.rowTo(9, 0, 9, 0) + "dry 0 1;", 9, 8, false, 0, 1);
        // It has come once it has come, though it comes again.
        comes("line 0 0 7 0;back 0 0;dry 0 5;", 7, 9, false, 1, 2);
    }

    /** Without a prompter the second follower is said in the place of the first, and if there is none, it is over. */
    private static void secondInPlace() {
        String three = "line 0 0 0 0;line 0 1 1 0;line 0 1 2 0;line 0 1 3 0;dry 0 0;";
        comes(three + "dry 1 3;", 1, 2, false, 7, 10);
        comes(three + "dry 1 3;", 2, 2, false, 3, 10);
        comes(three + "dry 1 3;", 3, 2, false, 0, 1);
        comes(three + "dry 1 10;", 1, 9, false, 0, 1);
        comes(three + "dry 1 10;", 2, 9, false, 1, 1);
        comes(three + "dry 1 10;", 1, 9, true, 1, 1);
        comes(three + "dry 1 10;", 2, 9, true, 0, 1);
        comes(three + "dry 1 0;", 2, 9, false, 0, 1);
        String two = "line 0 0 0 0;line 0 1 1 0;dry 0 0;";
        comes(two + "dry 1 10;", 1, 9, false, 0, 1);
        comes(two + "dry 1 4;", 1, 9, false, 3, 5);
        // The second follower by a back, line 0 itself: it comes again and again, and then the first may come.
        comes(two + "back 0 0;dry 1 5;", 1, 2, false, 1, 2);
        comes(two + "back 0 0;dry 1 5;", 1, 3, false, 3, 4);
        comes(two + "back 0 0;dry 1 5;", 1, 9, false, 255, 256);
    }

    /** Promise 15: n 1 to 9. */
    private static void harmNumbers() {
        CellarPrompter x = Edges.book(FORK);
        for (int i = 0; i < 4; i++) {
            boolean prompter = i % 2 == 0;
            boolean under = i / 2 == 0;
            Edges.range("harm n", 1, 9, -1, n -> x.harm(0, n, prompter, under));
            Edges.range("harm in a book", 0, 0, -1, b -> x.harm(b, 3, prompter, under));
        }
    }

    private static void harm(String book, int n, boolean prompter, long above, long below) {
        CellarPrompter x = Edges.book(book);
        Edges.fraction("harm " + n + " in " + book, x.harm(0, n, prompter, false), x.harm(0, n, prompter, true),
            above, below);
    }

    /** HARM in the mean of the first n lines together; what a child says does none. */
    private static void harm() {
        for (int n = 1; n <= 9; n++) {
            harm("line 0 0 0 9;back 0 0;", n, true, 9 * n, 1);
            harm("line 0 0 0 9;back 0 0;dry 0 0;", n, false, 9 * n, 1);
            harm("line 0 0 0 9;back 0 0;dry 0 10;", n, false, 0, 1);
            harm("line 0 0 0 9;back 0 0;child 0;", n, true, 0, 1);
            harm("line 0 0 0 1;back 0 0;dry 0 5;", n, false, (1 << n) - 1, 1 << n);
            harm(Edges.rowTo(9, 0, 0, 7), n, true, n == 9 ? 7 : 0, 1);
        }
        harm("line 0 0 0 9;", 9, true, 9, 1);
        harm("line 0 0 0 9;", 9, false, 36, 5);
        harm("line 0 0 0 9;back 0 0;dry 0 1;", 9, false, 49618940391L, 1000000000L);
        // The second one's harm in the first one's place; if there is none, it is over, and no harm is done.
        harm("line 0 0 0 0;line 0 1 0 4;line 0 2 0 6;dry 0 0;dry 1 10;", 2, false, 6, 1);
        harm("line 0 0 0 0;line 0 1 0 4;line 0 2 0 6;dry 0 0;dry 1 5;", 2, false, 5, 1);
        harm("line 0 0 0 0;line 0 1 0 4;dry 0 0;dry 1 5;", 2, false, 2, 1);
        harm("line 0 0 0 0;line 0 1 0 4;line 0 2 0 6;dry 0 0;dry 1 5;child 2;", 2, false, 2, 1);
    }

    /** Promise 16: LOOP, 0 if it ends; LENGTH. */
    private static void loops() {
        loop(ONE, 0, 1);
        loop(ONE + "back 0 0;", 1, 1);
        loop(TWENTY, 0, 2);
        for (int lines = 1; lines <= 20; lines++) {
            String row = Edges.rowTo(lines, 0, 0, 0);
            loop(row, 0, lines);
            for (int to = 0; to < lines; to++) {
                loop(row + "back " + (lines - 1) + " " + to + ";", lines - to, lines);
            }
        }
        // A back that is not the first follower leads nowhere by next.
        loop(FORK, 2, 2);
        loop("line 0 0 0 0;line 0 0 0 0;back 0 0;", 0, 2);
        CellarPrompter x = Edges.book(FORK);
        Edges.range("loop in a book", 0, 0, -1, b -> x.loop(b, false));
        Edges.range("length in a book", 0, 0, -1, b -> x.loop(b, true));
    }

    private static void loop(String book, int loop, int length) {
        CellarPrompter x = Edges.book(book);
        Kit.due("loop of " + book, x.loop(0, false), loop);
        Kit.due("length of " + book, x.loop(0, true), length);
    }

    /** Promise 22, BAR: the fewest people, of several the least; 0 if none of the scene can be said. */
    private static void bars() {
        CellarPrompter x = Edges.book(FORK);
        Edges.range("bar scene", 0, 9, -1, s -> x.bar(0, s));
        Edges.range("bar in a book", 0, 0, -1, b -> x.bar(b, 0));
        for (int first = 0; first <= 5; first++) {
            Kit.due("who says line 0", Edges.book("line 0 " + first + " 9 0;").bar(0, 9), 1 << first);
            Kit.due("nobody", Edges.book("line 0 " + first + " 9 0;").bar(0, 8), 0);
            for (int second = 0; second <= 5; second++) {
                String book = "line 0 " + first + " 0 0;line 0 " + second + " 9 0;";
                Kit.due("bar of " + book, Edges.book(book).bar(0, 9), 1 << Math.min(first, second));
            }
        }
        Kit.due("by either way", Edges.book("line 0 5 0 0;line 0 1 0 0;line 0 2 0 0;line 1 4 9 0;line 2 4 9 0;")
            .bar(0, 9), 16);
        Kit.due("one of either way", Edges.book("line 0 5 0 0;line 0 1 0 0;line 0 2 0 0;line 1 4 9 0;line 2 3 9 0;")
            .bar(0, 9), 32);
        Kit.due("a line that none goes to", Edges.book("line 0 0 0 0;line 1 1 9 0;").bar(0, 9), 0);
        Kit.due("the end of twenty", Edges.book(Edges.rowTo(20, 5, 9, 0)).bar(0, 9), 1);
    }

    /** Promise 23, MUST: lines of other scenes without each of which none can be said; NONE if none can be. */
    private static void musts() {
        CellarPrompter x = Edges.book(FORK);
        Edges.range("must scene", 0, 2, -1, s -> x.must(0, s));
        Edges.range("must in a book", 0, 0, -1, b -> x.must(b, 0));
        Kit.due("scene 9", Edges.book("line 0 0 9 0;").must(0, 9), 0);
        Kit.due("scene 10", Edges.book("line 0 0 9 0;").must(0, 10), -1);
        Kit.due("none of it", Edges.book("line 0 0 9 0;").must(0, 8), -1);
        Kit.due("none goes to it", Edges.book("line 0 0 0 0;line 1 0 9 0;").must(0, 9), -1);
        for (int lines = 1; lines <= 20; lines++) {
            Kit.due("a row of " + lines, Edges.book(Edges.rowTo(lines, 0, 9, 0)).must(0, 9), (1 << lines - 1) - 1);
        }
        Kit.due("not lines of its own", Edges.book("line 0 0 0 0;line 0 0 9 0;line 1 0 0 0;line 2 0 9 0;").must(0, 9), 1);
        Kit.due("neither of two", Edges.book("line 0 0 0 0;line 0 1 0 0;line 0 2 0 0;line 1 4 9 0;back 2 3;")
            .must(0, 9), 1);
    }

    /** Promise 24: WAYS of n, 1 to 12, or shorter ones, if nothing follows the last line. */
    private static void ways() {
        CellarPrompter x = Edges.book(BOTH);
        Edges.range("ways n", 1, 12, -1, n -> x.ways(0, n));
        Edges.range("ways in a book", 0, 0, -1, b -> x.ways(b, 1));
        for (int n = 1; n <= 12; n++) {
            Kit.due("two for each", x.ways(0, n), 1L << n - 1);
            Kit.due("one line", Edges.book(ONE).ways(0, n), 1);
            Kit.due("a row", Edges.book(Edges.rowTo(5, 0, 0, 0)).ways(0, n), 1);
            Kit.due("nineteen at once", Edges.book(TWENTY).ways(0, n), n == 1 ? 1 : 19);
            Kit.due("shorter ones count", Edges.book("line 0 0 0 0;line 0 0 0 0;back 0 0;").ways(0, n), n);
        }
        // Line 0 follows itself and 19 others, of which seven go back: the most that a book may have.
        StringBuilder most = new StringBuilder(TWENTY + "back 0 0;");
        for (int l = 1; l <= 7; l++) {
            most.append("back " + l + " 0;");
        }
        long at = 1;
        long behind = 1;
        for (int n = 2; n <= 12; n++) {
            long next = at + 12 + 7 * behind;
            behind = at;
            at = next;
            Kit.due("the most ways of " + n, Edges.book(most.toString()).ways(0, n), at);
        }
    }

    /** Promise 25: n 1 to 20, k 0 to 9; NONE for other numbers, no lines, no such book. */
    private static void worstNumbers() {
        CellarPrompter x = Edges.book(FORK);
        for (boolean mild : new boolean[] {false, true}) {
            Edges.range("worst n", 1, 20, -1, n -> x.worst(0, n, 0, mild));
            Edges.range("worst k", 0, 9, -1, k -> x.worst(0, 20, k, mild));
            Edges.range("worst in a book", 0, 0, -1, b -> x.worst(b, 1, 0, mild));
            CellarPrompter none = Edges.book("");
            Kit.due("worst of no lines", none.worst(0, 1, 0, mild), -1);
            Kit.due("worst of no lines", none.worst(0, 20, 9, mild), -1);
            Kit.due("worst of one line", Edges.book(ONE).worst(0, 20, 9, mild), 0);
        }
    }

    /** WORST: the most harm of a way of n by k strayings at most; MILD: the least. */
    private static void worst() {
        // Line 1 is due, does no harm and ends it; each straying says line 0 again.
        CellarPrompter worse = Edges.book("line 0 0 0 9;line 0 1 0 0;back 0 0;");
        CellarPrompter milder = Edges.book("line 0 0 0 0;line 0 1 0 9;line 1 1 0 9;back 0 0;back 2 2;");
        for (int k = 0; k <= 9; k++) {
            for (int n = 1; n <= 20; n++) {
                Kit.due("worst " + n + " " + k, worse.worst(0, n, k, false), 9 * Math.min(n, k + 1));
                Kit.due("mild " + n + " " + k, worse.worst(0, n, k, true), 9);
                Kit.due("milder " + n + " " + k, milder.worst(0, n, k, true), 9 * Math.max(0, n - k - 1));
                Kit.due("no milder " + n + " " + k, milder.worst(0, n, k, false), 9 * (n - 1));
            }
        }
        CellarPrompter most = Edges.book("line 0 0 0 9;back 0 0;");
        CellarPrompter child = Edges.book("line 0 0 0 9;back 0 0;child 0;");
        CellarPrompter row = Edges.book(Edges.rowTo(20, 0, 0, 9));
        for (int n = 1; n <= 20; n++) {
            Kit.due("the most harm", most.worst(0, n, 9, false), 9 * n);
            Kit.due("the least harm, it is the same", most.worst(0, n, 9, true), 9 * n);
            Kit.due("a child does none", child.worst(0, n, 9, false), 0);
            Kit.due("harm at the end", row.worst(0, n, 0, false), n == 20 ? 9 : 0);
        }
    }

    /** Promise 26, LOST: the first line but line 0 without which LENGTH is least; NONE if there is no such line. */
    private static void lost() {
        lost("", -1, -1);
        lost(ONE, -1, -1);
        lost(ONE + "back 0 0;", -1, -1);
        lost(ONE.repeat(2), 1, 1);
        // Without line 1 line 2 is next.
        lost(ONE.repeat(3), 1, 2);
        lost("line 0 0 0 0;line 1 0 0 0;", 1, 1);
        lost("line 0 0 0 0;line 1 0 0 0;back 0 0;", 1, 1);
        for (int lines = 2; lines <= 20; lines++) {
            lost(Edges.rowTo(lines, 0, 0, 0), 1, 1);
            lost(Edges.rowTo(lines, 0, 0, 0) + "back " + (lines - 1) + " 0;", 1, 1);
        }
        // Without line 1 line 3 comes, which goes on as long; without line 2 it ends behind line 1.
        lost("line 0 0 0 0;line 0 0 0 0;line 1 0 0 0;line 0 0 0 0;line 3 0 0 0;", 2, 2);
        // Line 0 stays a follower, and lines that nobody goes to take nothing away.
        lost("line 0 0 0 0;line 2 0 0 0;line 1 0 0 0;back 0 0;", 1, 1);
        // Without line 1, and without line 2, it is as short: the first of them.
        lost("line 0 0 0 0;line 0 0 0 0;line 1 0 0 0;back 0 2;", 1, 2);
        CellarPrompter x = Edges.book(FORK);
        Edges.range("lost in a book", 0, 0, -1, b -> x.lost(b, false));
        Edges.range("lost in a book, the length", 0, 0, -1, b -> x.lost(b, true));
    }

    private static void lost(String book, int line, int length) {
        CellarPrompter x = Edges.book(book);
        Kit.due("lost of " + book, x.lost(0, false), line);
        Kit.due("lost, the length of " + book, x.lost(0, true), length);
    }

    /** Promise 27: people 0 to 63, scenes 0 to 9. */
    private static void forceNumbers() {
        CellarPrompter x = Edges.book("line 0 0 9 0;");
        Edges.range("force people", 0, 63, -1, p -> x.force(0, 9, p));
        Edges.range("force scene", 9, 9, -1, s -> x.force(0, s, 63));
        Edges.range("force in a book", 0, 0, -1, b -> x.force(b, 9, 63));
        CellarPrompter zero = Edges.book(ONE);
        Edges.range("force scene", 0, 0, -1, s -> zero.force(0, s, 63));
    }

    /** FORCE: in how many lines it comes for sure, at most; line 0 counts. */
    private static void force() {
        for (int lines = 1; lines <= 20; lines++) {
            for (int people : new int[] {0, 1, 63}) {
                Kit.due("a row of " + lines, Edges.book(Edges.rowTo(lines, 0, 9, 0)).force(0, 9, people), lines);
            }
        }
        for (int who = 0; who <= 5; who++) {
            CellarPrompter x = Edges.book("line 0 " + who + " 0 0;line 0 0 1 0;line 0 0 2 0;");
            for (int people = 0; people <= 63; people++) {
                boolean they = (people >> who & 1) == 1;
                Kit.due("they choose the first", x.force(0, 1, people), they ? 2 : -1);
                Kit.due("they choose the second", x.force(0, 2, people), they ? 2 : -1);
                Kit.due("nobody can", x.force(0, 3, people), -1);
            }
        }
        // It comes by either: they choose the sooner one, the others the later one.
        CellarPrompter y = Edges.book("line 0 0 0 0;line 0 0 9 0;line 0 0 0 0;line 2 0 9 0;");
        Kit.due("the sooner one", y.force(0, 9, 1), 2);
        Kit.due("the later one", y.force(0, 9, 0), 3);
        // Who may go round for ever is not forced.
        CellarPrompter z = Edges.book("line 0 0 0 0;line 0 1 9 0;back 0 0;");
        Kit.due("round for ever", z.force(0, 9, 62), -1);
        Kit.due("not round", z.force(0, 9, 1), 2);
        Kit.due("it ends ahead of it", Edges.book(ONE).force(0, 9, 63), -1);
        Kit.due("one of the others' ways ends", Edges.book("line 0 0 0 0;line 0 0 0 0;line 0 0 0 0;line 1 0 9 0;")
            .force(0, 9, 0), -1);
    }

    /** Promise 28: n 1 to 20; a fraction in least terms. */
    private static void prompts() {
        CellarPrompter x = Edges.book(FORK);
        Edges.range("prompts n", 1, 20, -1, n -> x.prompts(0, n, false));
        Edges.range("prompts n, under", 1, 20, -1, n -> x.prompts(0, n, true));
        Edges.range("prompts in a book", 0, 0, -1, b -> x.prompts(b, 1, true));
        for (int n = 1; n <= 20; n++) {
            prompts("line 0 0 0 0;back 0 0;dry 0 10;", n, n, 1);
            prompts("line 0 0 0 0;back 0 0;dry 0 0;", n, 0, 1);
            prompts("line 0 0 0 0;dry 0 10;", n, 1, 1);
            prompts(Edges.rowTo(20, 5, 0, 0) + "dry 0 0;dry 5 3;", n, n == 20 ? 3 : 0, n == 20 ? 10 : 1);
            prompts(Edges.rowTo(2, 5, 0, 0) + "dry 0 1;dry 5 4;", n, 1, n == 1 ? 10 : 2);
        }
        prompts("line 0 0 0 0;", 1, 1, 5);
        prompts("line 0 0 0 0;dry 0 5;", 1, 1, 2);
        prompts("line 0 0 0 0;back 0 0;dry 0 7;", 20, 14, 1);
        prompts("line 0 0 0 0;back 0 0;dry 0 7;", 19, 133, 10);
    }

    private static void prompts(String book, int n, long above, long below) {
        CellarPrompter x = Edges.book(book);
        Edges.fraction("prompts " + n + " of " + book, x.prompts(0, n, false), x.prompts(0, n, true), above, below);
    }

    /** A book without lines. */
    private static void emptyBook() {
        CellarPrompter x = Edges.book("");
        Kit.due("no follower", x.follower(0, 0, 0), -1);
        for (int n = 1; n <= 20; n++) {
            Kit.due("no way", x.avoid(0, 0, n, -1), -1);
            Kit.due("no way's line", x.avoid(0, 0, n, 0), -1);
        }
        for (int scene = 0; scene <= 9; scene++) {
            Kit.due("never", x.soonest(0, scene, 9), -1);
            Kit.due("nobody", x.bar(0, scene), 0);
            Kit.due("none can be said", x.must(0, scene), -1);
            Kit.due("not for sure", x.force(0, scene, 63), -1);
            comes("", scene, 9, true, 0, 1);
            comes("", scene, 1, false, 0, 1);
        }
        Kit.due("never together", x.together(0, 0, 0), -1);
        harm("", 9, true, 0, 1);
        harm("", 1, false, 0, 1);
        loop("", 0, 0);
        prompts("", 20, 0, 1);
        Kit.due("no ways", x.ways(0, 1), 0);
        Kit.due("no ways", x.ways(0, 12), 0);
    }
}

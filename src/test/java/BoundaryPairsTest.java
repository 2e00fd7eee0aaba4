/** The boundaries of two books, logs, towns: Terms 3, 4, 6; promises 17 to 20 (merged, voice, fits, town), 29 (parted). */
public final class BoundaryPairsTest {
    /** Line 0, said by 0, follows itself. */
    private static final String LOOP = "line 0 0 0 0;back 0 0;";
    /** Two lines, said by 0 and 1, each of which follows each; behind each the other one is due. */
    private static final String BOTH = "line 0 0 0 0;line 0 1 0 0;back 0 0;back 1 0;back 1 1;";

    public static void main(String[] args) {
        mergedNumbers();
        merged();
        mergedShorter();
        parted();
        voices();
        fitsNumbers();
        noVoices();
        nothingFits();
        howManyFit();
        firstAndSure();
        fewest();
        guess();
        townNumbers();
        heard();
        listen();
        guard();
        wrong();
        hush();
        Kit.finish("BoundaryPairsTest");
    }

    /** Promise 17: n 1 to 12; k -2, NONE, and those of the row; NONE if there is none such of either. */
    private static void mergedNumbers() {
        CellarPrompter x = Edges.books(Edges.rowBy(Edges.same(0, 20)), Edges.rowBy(Edges.same(1, 20)));
        for (int k = -2; k <= 0; k++) {
            int at = k;
            Edges.range("merged n, k " + k, 1, 12, -1, n -> x.merged(0, 1, n, at));
            Edges.range("merged one, k " + k, 0, 1, -1, b -> x.merged(b, 0, 1, at));
            Edges.range("merged other, k " + k, 0, 1, -1, b -> x.merged(1, b, 1, at));
        }
        for (int n = 1; n <= 12; n++) {
            int of = n;
            Edges.range("merged " + n, -2, 2 * n - 1, -1, k -> x.merged(0, 1, of, k));
            Edges.range("merged with itself " + n, -2, n - 1, -1, k -> x.merged(0, 0, of, k));
        }
        CellarPrompter single = Edges.book(LOOP);
        for (int k = -2; k <= 0; k++) {
            int at = k;
            Edges.range("merged of one book", 0, 0, -1, b -> single.merged(b, 0, 1, at));
            Edges.range("merged with one book", 0, 0, -1, b -> single.merged(0, b, 1, at));
        }
    }

    private static void row(CellarPrompter x, int n, int common, long... row) {
        for (int one = 0; one <= 1; one++) {
            int first = one;
            Kit.due("merged, how many", x.merged(first, 1 - first, n, -1), row.length);
            Kit.due("merged, common", x.merged(first, 1 - first, n, -2), common);
            for (int k = 0; k < row.length; k++) {
                Kit.due("merged " + k, x.merged(first, 1 - first, n, k), row[k]);
            }
            Kit.due("merged, not so many", x.merged(first, 1 - first, n, row.length), -1);
        }
    }

    /** The first n lines by next; of several shortest rows the first by numbers. */
    private static void merged() {
        CellarPrompter unlike = Edges.books(Edges.rowBy(Edges.same(5, 20)), Edges.rowBy(Edges.same(0, 20)));
        CellarPrompter alike = Edges.books(Edges.rowBy(Edges.same(3, 20)), LOOP.replace("0 0 0 0;", "0 3 0 0;"));
        for (int n = 1; n <= 12; n++) {
            long[] both = new long[2 * n];
            java.util.Arrays.fill(both, n, 2 * n, 5);
            row(unlike, n, 0, both);
            long[] three = new long[n];
            java.util.Arrays.fill(three, 3);
            row(alike, n, n, three);
        }
        CellarPrompter x = Edges.books(Edges.rowBy(1, 0, 2, 2), Edges.rowBy(0, 1, 2, 3));
        row(x, 1, 0, 0, 1);
        row(x, 2, 1, 0, 1, 0);
        row(x, 3, 2, 0, 1, 0, 2);
        row(x, 4, 2, 0, 1, 0, 2, 2, 3);
        row(x, 5, 2, 0, 1, 0, 2, 2, 3);
        // The smaller number first would make it longer.
        row(Edges.books(Edges.rowBy(1, 2, 0), Edges.rowBy(0, 1, 2)), 3, 2, 0, 1, 2, 0);
        row(Edges.books(Edges.rowBy(5, 4), Edges.rowBy(4, 0)), 2, 1, 5, 4, 0);
        row(Edges.books(Edges.rowBy(0, 0), Edges.rowBy(1, 0)), 2, 1, 0, 1, 0);
        row(Edges.books(Edges.rowBy(0, 2), Edges.rowBy(1, 1)), 2, 0, 0, 1, 1, 2);
        row(Edges.books(Edges.rowBy(2, 3, 4, 5, 1), Edges.rowBy(1, 2, 3, 4, 5)), 5, 4, 1, 2, 3, 4, 5, 1);
        row(Edges.books(Edges.rowBy(5, 0, 1, 2, 3), Edges.rowBy(4, 5, 0, 1, 2)), 5, 4, 4, 5, 0, 1, 2, 3);
        row(Edges.books(Edges.rowBy(0, 1, 0, 1), Edges.rowBy(1, 1, 0, 0)), 4, 2, 0, 1, 0, 1, 0, 0);
        row(Edges.books(Edges.rowBy(3, 0, 0, 0), Edges.rowBy(0, 0, 0, 3)), 4, 3, 3, 0, 0, 0, 3);
    }

    /** Fewer lines, if a book ends; a book without lines has an empty row. */
    private static void mergedShorter() {
        for (int n = 1; n <= 12; n++) {
            long[] loop = new long[n];
            row(Edges.books(LOOP, Edges.rowBy(0)), n, 1, loop);
            row(Edges.books(LOOP, ""), n, 0, loop);
            row(Edges.books("", ""), n, 0);
            row(Edges.books("line 0 2 0 0;", "line 0 4 0 0;"), n, 0, 2, 4);
        }
        row(Edges.books(Edges.rowBy(0, 1, 2), Edges.rowBy(0, 2)), 12, 2, 0, 1, 2);
    }

    /** Promise 29: the first k, 0 to 19, by which others say it, or nobody in one of them; NONE if there is none. */
    private static void parted() {
        for (int k = 0; k <= 20; k++) {
            int[] people = Edges.same(0, 20);
            if (k < 20) {
                people[k] = 5;
            }
            CellarPrompter x = Edges.books(Edges.rowBy(people), LOOP);
            Kit.due("parted at " + k, x.parted(0, 1), k < 20 ? k : -1);
            Kit.due("parted at " + k, x.parted(1, 0), k < 20 ? k : -1);
            CellarPrompter y = Edges.books(Edges.rowBy(Edges.same(0, k)), LOOP);
            Kit.due("ended at " + k, y.parted(0, 1), k < 20 ? k : -1);
            Kit.due("ended at " + k, y.parted(1, 0), k < 20 ? k : -1);
            Kit.due("both ended at " + k, y.parted(0, 0), -1);
        }
        CellarPrompter none = Edges.books("", "");
        Kit.due("nobody in both", none.parted(0, 1), -1);
        CellarPrompter x = Edges.books("line 0 0 0 0;", "line 0 1 0 0;");
        Kit.due("parted at once", x.parted(0, 1), 0);
        for (int book : new int[] {Integer.MIN_VALUE, -2, -1, 2, 3, Integer.MAX_VALUE}) {
            Kit.due("parted of book " + book, x.parted(book, 1), -1);
            Kit.due("parted of book " + book, x.parted(0, book), -1);
        }
        Kit.due("no second book", Edges.book(LOOP).parted(0, 1), -1);
        // It is who says it that counts, not which line it is, nor its scene, its harm.
        Kit.due("other lines, the same people", Edges.books("line 0 3 1 2;line 0 4 5 6;back 1 0;",
            "line 0 3 9 9;line 1 5 9 9;line 0 4 9 9;back 2 0;").parted(0, 1), -1);
    }

    /** Promise 18: how many voices by k NONE; of each who was heard, 6 somebody; NONE if there is none such. */
    private static void voices() {
        CellarPrompter x = Edges.log("", "heard 0;gap;heard 5;");
        Edges.row("voice, behind how many", 3, k -> x.voice(0, k) == -1 ? 3 : x.voice(0, k), 0, 6, 5);
        Edges.range("voice k", -1, 2, -1, k -> x.voice(0, k));
        Edges.range("voice of a log", 0, 0, -1, g -> x.voice(g, -1));
        Edges.range("voice 0 of a log", 0, 0, -1, g -> x.voice(g, 0));
        Kit.due("a second log", Kit.tell(x, 2, -1, ""), 1);
        Edges.range("voice of two logs", 0, 1, -1, g -> x.voice(g, -1));
        Edges.range("no voices", -1, -1, -1, k -> x.voice(1, k));
        for (int many = 0; many <= 12; many++) {
            CellarPrompter y = Edges.log("", "gap;".repeat(many));
            Kit.due("voices", y.voice(0, -1), many);
            Edges.range("voice k of " + many, -1, many - 1, -1, k -> y.voice(0, k));
        }
    }

    /** Promise 19: what 0 to 2, 10 + k, 30 + k of each voice; -2 if there is none such of any, or for another what. */
    private static void fitsNumbers() {
        for (int voices = 0; voices <= 12; voices++) {
            CellarPrompter x = Edges.log(BOTH, "gap;".repeat(voices));
            Edges.only("fits of " + voices, -2, what -> x.fits(0, 0, what), 0, 2, 10, 9 + voices, 30, 29 + voices);
            CellarPrompter y = Edges.log("", "heard 5;".repeat(voices));
            Edges.only("fits, none of " + voices, -2, what -> y.fits(0, 0, what), 0, 2, 10, 9 + voices, 30, 29 + voices);
        }
        CellarPrompter x = Edges.log(BOTH, "gap;");
        for (int what : new int[] {0, 1, 2, 10, 30}) {
            Edges.range("fits in a book, " + what, 0, 0, -2, b -> x.fits(b, 0, what));
            Edges.range("fits a log, " + what, 0, 0, -2, g -> x.fits(0, g, what));
        }
        Kit.due("a second book", Kit.tell(x, 0, -1, ""), 1);
        Kit.due("a second log", Kit.tell(x, 2, -1, ""), 1);
        Edges.range("fits in two books", 0, 1, -2, b -> x.fits(b, 0, 0));
        Edges.range("fits two logs", 0, 1, -2, g -> x.fits(0, g, 0));
    }

    /** Of a log without voices the one row without lines fits, in any book. */
    private static void noVoices() {
        for (String book : new String[] {"", "line 0 0 0 0;", LOOP, BOTH}) {
            CellarPrompter x = Edges.log(book, "");
            Kit.due("no voices", x.fits(0, 0, 0), 1);
            Kit.due("no voices, fewest", x.fits(0, 0, 1), 0);
            Kit.due("no voices, guess", x.fits(0, 0, 2), -1);
        }
    }

    /** Nothing fits: 0 of them; fewest, guess, the first way, sure are NONE. */
    private static void nothingFits() {
        String[] books = {"", "line 0 0 0 0;", "line 0 5 0 0;line 0 4 0 0;", BOTH};
        String[] logs = {"gap;", "gap;gap;", "gap;heard 5;", "gap;gap;gap;heard 2;"};
        for (int i = 0; i < books.length; i++) {
            CellarPrompter x = Edges.log(books[i], logs[i]);
            int voices = x.voice(0, -1);
            Kit.due("nothing fits", x.fits(0, 0, 0), 0);
            Kit.due("nothing fits, fewest", x.fits(0, 0, 1), -1);
            Kit.due("nothing fits, guess", x.fits(0, 0, 2), -1);
            for (int k = 0; k < voices; k++) {
                Kit.due("nothing fits, the first", x.fits(0, 0, 10 + k), -1);
                Kit.due("nothing fits, sure", x.fits(0, 0, 30 + k), -1);
            }
            Kit.due("nothing fits, no such voice", x.fits(0, 0, 10 + voices), -2);
            Kit.due("nothing fits, no such voice", x.fits(0, 0, 30 + voices), -2);
        }
    }

    private static long fits(String book, String log) {
        return Edges.log(book, log).fits(0, 0, 0);
    }

    /** As many lines as voices, not fewer, not more; each that was heard says that line. */
    private static void howManyFit() {
        for (int lines = 1; lines <= 13; lines++) {
            for (int voices = 1; voices <= 12; voices++) {
                Kit.due("a row of " + lines + ", " + voices + " voices",
                    fits(Edges.rowTo(lines, 0, 0, 0), "gap;".repeat(voices)), voices <= lines ? 1 : 0);
            }
        }
        for (int voices = 1; voices <= 12; voices++) {
            Kit.due("two for each", fits(BOTH, "gap;".repeat(voices)), 1L << voices - 1);
            Kit.due("the last one was heard", fits(BOTH, "gap;".repeat(voices - 1) + "heard 0;"),
                voices == 1 ? 1 : 1L << voices - 2);
            Kit.due("all were heard", fits(BOTH, "heard 0;".repeat(voices)), 1);
            Kit.due("one who says none", fits(BOTH, "gap;".repeat(voices - 1) + "heard 2;"), 0);
        }
        for (int who = 0; who <= 5; who++) {
            for (int voice = 0; voice <= 5; voice++) {
                Kit.due("who says line 0", fits("line 0 " + who + " 0 0;", "heard " + voice + ";"), who == voice ? 1 : 0);
            }
        }
        // The most ways: line 0 follows itself and 19 others, of which seven go back.
        StringBuilder most = new StringBuilder("line 0 0 0 0;".repeat(20) + "back 0 0;");
        for (int l = 1; l <= 7; l++) {
            most.append("back " + l + " 0;");
        }
        long ahead = 1;
        long at = 20;
        for (int voices = 2; voices <= 12; voices++) {
            Kit.due("the most ways", fits(most.toString(), "gap;".repeat(voices)), at);
            long next = at + 7 * ahead;
            ahead = at;
            at = next;
        }
    }

    /** The first way by numbers; SURE: the line that is there in all, NONE if there is not one. */
    private static void firstAndSure() {
        CellarPrompter x = Edges.log("line 0 0 0 0;line 1 1 0 0;line 1 1 0 0;line 2 2 0 0;back 0 2;back 0 1;back 1 3;",
            "gap;gap;gap;");
        Kit.due("four ways", x.fits(0, 0, 0), 4);
        Edges.row("the first by numbers, not as told", -2, k -> x.fits(0, 0, 10 + k), 0, 1, 1);
        Edges.row("sure", -2, k -> x.fits(0, 0, 30 + k), 0, -1, -1);
        Kit.due("another log", Kit.tell(x, 2, 0, "gap;gap;heard 2;"), 0);
        Kit.due("two ways", x.fits(0, 0, 0), 2);
        Edges.row("the first", -2, k -> x.fits(0, 0, 10 + k), 0, 1, 3);
        Edges.row("sure at both ends", -2, k -> x.fits(0, 0, 30 + k), 0, -1, 3);
        Kit.due("another log", Kit.tell(x, 2, 0, "gap;gap;gap;heard 1;"), 0);
        Kit.due("two ways that fit", x.fits(0, 0, 0), 2);
        Edges.row("the first", -2, k -> x.fits(0, 0, 10 + k), 0, 1, 1, 1);
        Edges.row("sure", -2, k -> x.fits(0, 0, 30 + k), 0, 1, 1, -1);
        CellarPrompter full = Edges.log(Edges.rowTo(12, 5, 0, 0), "gap;".repeat(11) + "heard 5;");
        Edges.row("twelve lines", -2, k -> full.fits(0, 0, 10 + k), 0, 1, 2, 3, 4, 5, 6, 7, 8, 9, 10, 11);
        Edges.row("twelve sure lines", -2, k -> full.fits(0, 0, 30 + k), 0, 1, 2, 3, 4, 5, 6, 7, 8, 9, 10, 11);
    }

    /** FEWEST: the least strayings of one that fits. */
    private static void fewest() {
        for (int voices = 1; voices <= 12; voices++) {
            Kit.due("no straying", Edges.log(BOTH, "gap;".repeat(voices)).fits(0, 0, 1), 0);
            // Behind line 0 line 1 is due: line 0 again is a straying each time.
            Kit.due("each a straying", Edges.log(BOTH, "heard 0;".repeat(voices)).fits(0, 0, 1), voices - 1);
            Kit.due("but the last one", Edges.log(BOTH, "heard 0;".repeat(voices) + (voices < 12 ? "gap;" : ""))
                .fits(0, 0, 1), voices - 1);
        }
        Kit.due("the fewer of two", Edges.log("line 0 0 0 0;line 0 1 0 0;line 0 2 0 0;line 1 1 0 0;line 1 3 0 0;"
            + "line 2 3 0 0;", "gap;gap;heard 3;").fits(0, 0, 1), 1);
    }

    /** GUESS: of the gaps that for which one and the same person says it least often, of several the first. */
    private static void guess() {
        String[] logs = {"heard 0;", "gap;", "heard 0;heard 1;", "gap;heard 0;", "heard 0;gap;", "gap;gap;", "gap;gap;gap;",
            "heard 0;gap;gap;", "gap;heard 0;gap;", "heard 0;heard 0;gap;", "heard 1;gap;"};
        int[] due = {-1, 0, -1, 0, 1, 1, 1, 1, 2, 2, -1};
        for (int i = 0; i < logs.length; i++) {
            Kit.due("guess of " + logs[i], Edges.log(BOTH, logs[i]).fits(0, 0, 2), due[i]);
        }
        // Two lines of one person count together; two people's are parted.
        Kit.due("people, not lines", Edges.log("line 0 0 0 0;line 0 1 0 0;line 0 1 0 0;line 1 0 0 0;line 2 2 0 0;",
            "gap;gap;gap;").fits(0, 0, 2), 2);
        for (int voices = 1; voices <= 12; voices++) {
            Kit.due("all alike, the first", Edges.log(LOOP, "gap;".repeat(voices)).fits(0, 0, 2), 0);
            Kit.due("the last one alone", Edges.log(LOOP, "heard 0;".repeat(voices - 1) + "gap;").fits(0, 0, 2),
                voices - 1);
        }
    }

    /** Promise 20: each what, of each house; no wall behind the last one; NONE if there is none such, another what. */
    private static void townNumbers() {
        for (int houses = 2; houses <= 9; houses++) {
            CellarPrompter x = Edges.town("houses " + houses + ";");
            int last = houses - 1;
            Edges.only("town of " + houses, -1, what -> x.town(0, what), 0, 5, 10, 10 + last - 1, 20, 20 + last,
                30, 30 + last, 40, 40 + last);
            Kit.due("houses", x.town(0, 0), houses);
        }
        CellarPrompter x = Edges.town("wall 2 9;wall 0 1;book 3 1;loud 0 0;loud 3 9;");
        Edges.row("wall", -1, h -> x.town(0, 10 + h), 1, 2, 9);
        Edges.row("book", -1, h -> x.town(0, 20 + h), 0, 0, 0, 1);
        Edges.row("loud", -1, h -> x.town(0, 30 + h), 0, 3, 3, 9);
        for (int what = 0; what <= 5; what++) {
            int asked = what;
            Edges.range("town " + what, 0, 0, -1, t -> x.town(t, asked));
        }
        Kit.due("a second town", Kit.tell(x, 3, -1, ""), 1);
        Edges.range("two towns", 0, 1, -1, t -> x.town(t, 0));
    }

    /** HEARD: where the walls between are less than its loud; its own, too, if loud is not 0. */
    private static void heard() {
        for (int loud = 0; loud <= 9; loud++) {
            for (int wall = 1; wall <= 9; wall++) {
                CellarPrompter x = Edges.town("houses 2;wall 0 " + wall + ";loud 0 " + loud + ";loud 1 " + loud + ";");
                int own = loud > 0 ? 1 : 0;
                int other = wall < loud ? 1 : 0;
                Kit.due("heard of 0, " + wall + " " + loud, x.town(0, 40), own + 2 * other);
                Kit.due("heard of 1, " + wall + " " + loud, x.town(0, 41), other + 2 * own);
            }
            CellarPrompter nine = Edges.town("houses 9;wall 0 1;wall 1 1;wall 2 1;wall 3 1;wall 4 1;wall 5 1;wall 6 1;"
                + "wall 7 1;loud 0 " + loud + ";loud 8 " + loud + ";loud 4 " + loud + ";");
            Kit.due("through walls of 1, from 0", nine.town(0, 40), (1 << loud) - 1);
            Kit.due("through walls of 1, from 8", nine.town(0, 48), (1 << loud) - 1 << 9 - loud);
            int bits = 0;
            for (int h = 0; h <= 8; h++) {
                bits |= Math.abs(h - 4) < loud ? 1 << h : 0;
            }
            Kit.due("through walls of 1, from 4", nine.town(0, 44), bits);
        }
        String walls = "houses 3;wall 0 2;wall 1 3;";
        Kit.due("both walls together are as loud", Edges.town(walls + "loud 0 5;").town(0, 40), 3);
        Kit.due("both walls together are less", Edges.town(walls + "loud 0 6;").town(0, 40), 7);
        Kit.due("the same from the other end", Edges.town(walls + "loud 2 5;").town(0, 42), 6);
        Kit.due("the same from the other end", Edges.town(walls + "loud 2 6;").town(0, 42), 7);
    }

    private static void listen(String town, int house, int others) {
        CellarPrompter x = Edges.town(town);
        Kit.due("listen of " + town, x.town(0, 1), house);
        Kit.due("how many, of " + town, x.town(0, 2), others);
    }

    private static String allLoud(int houses, int wall, int loud) {
        StringBuilder text = new StringBuilder("houses " + houses + ";");
        for (int h = 0; h < houses; h++) {
            text.append("loud " + h + " " + loud + ";");
            text.append(h < houses - 1 ? "wall " + h + " " + wall + ";" : "");
        }
        return text.toString();
    }

    /** LISTEN: where most others are heard, of several the least; itself does not count. */
    private static void listen() {
        for (int houses = 2; houses <= 9; houses++) {
            listen(allLoud(houses, 1, 0), 0, 0);
            listen(allLoud(houses, 1, 1), 0, 0);
            listen(allLoud(houses, 9, 9), 0, 0);
            listen(allLoud(houses, 1, 9), 0, houses - 1);
            listen(allLoud(houses, 1, 2), houses == 2 ? 0 : 1, houses == 2 ? 1 : 2);
        }
        listen(allLoud(9, 1, 8), 1, 8);
        listen(allLoud(9, 1, 5), 4, 8);
        listen("houses 9;loud 8 9;", 4, 3);
        listen("houses 2;loud 0 9;loud 1 0;", 1, 1);
        listen("houses 2;loud 0 0;loud 1 9;", 0, 1);
    }

    private static void guard(String town, int bits) {
        Kit.due("guard of " + town, Edges.town(town).town(0, 3), bits);
    }

    /** GUARD: the fewest houses, of several the least bits; a house whose loud is 0 need not be heard. */
    private static void guard() {
        for (int houses = 2; houses <= 9; houses++) {
            guard(allLoud(houses, 1, 0), 0);
            guard(allLoud(houses, 1, 1), (1 << houses) - 1);
            guard(allLoud(houses, 9, 9), (1 << houses) - 1);
            guard(allLoud(houses, 1, 9), 1);
        }
        guard("houses 2;wall 0 2;loud 0 3;loud 1 3;", 1);
        guard("houses 2;wall 0 2;loud 0 3;loud 1 2;", 2);
        guard("houses 2;wall 0 2;loud 0 2;loud 1 3;", 1);
        guard("houses 2;loud 0 0;loud 1 1;", 2);
        guard("houses 2;loud 0 1;loud 1 0;", 1);
        guard("houses 3;wall 0 2;wall 1 2;loud 0 3;loud 1 0;loud 2 3;", 2);
        guard(allLoud(3, 1, 2), 2);
        guard(allLoud(4, 1, 2), 5);
        guard(allLoud(9, 1, 2), 146);
        guard(allLoud(9, 1, 8), 2);
    }

    private static void wrong(String town, int couples) {
        Kit.due("wrong of " + town, Edges.town(town).town(0, 4), couples);
    }

    /** WRONG: couples next to one another, of unlike books, each heard in the other one. */
    private static void wrong() {
        for (int one = 0; one <= 3; one++) {
            for (int other = 0; other <= 3; other++) {
                String louds = "houses 2;wall 0 1;loud 0 " + one + ";loud 1 " + other + ";";
                wrong(louds, 0);
                wrong(louds + "book 0 1;book 1 1;", 0);
                wrong(louds + "book 0 1;", one > 1 && other > 1 ? 1 : 0);
                wrong(louds + "book 1 1;", one > 1 && other > 1 ? 1 : 0);
            }
        }
        for (int houses = 2; houses <= 9; houses++) {
            StringBuilder books = new StringBuilder(allLoud(houses, 1, 9));
            wrong(books.toString(), 0);
            for (int h = 1; h < houses; h += 2) {
                books.append("book " + h + " 1;");
            }
            wrong(books.toString(), houses - 1);
        }
        // Not next to one another.
        wrong("houses 3;book 0 1;loud 0 9;loud 1 0;loud 2 9;wall 0 1;wall 1 1;", 0);
    }

    /** HUSH: the least that is to be added to all walls so that nobody is heard in another house. */
    private static void hush() {
        for (int wall = 1; wall <= 9; wall++) {
            for (int loud = 0; loud <= 9; loud++) {
                for (int houses = 2; houses <= 9; houses++) {
                    Kit.due("hush " + wall + " " + loud, Edges.town(allLoud(houses, wall, loud)).town(0, 5),
                        Math.max(0, loud - wall));
                }
                String walls = "houses 2;wall 0 " + wall + ";";
                Kit.due("hush of 0", Edges.town(walls + "loud 1 0;loud 0 " + loud + ";").town(0, 5),
                    Math.max(0, loud - wall));
                Kit.due("hush of 1", Edges.town(walls + "loud 0 0;loud 1 " + loud + ";").town(0, 5),
                    Math.max(0, loud - wall));
            }
        }
        // The one couple that is to be hushed, from the first to the last.
        for (int house = 0; house <= 8; house++) {
            for (int loud = 0; loud <= 9; loud++) {
                Kit.due("hush of house " + house, Edges.town(allLoud(9, 2, 0) + "loud " + house + " " + loud + ";")
                    .town(0, 5), Math.max(0, loud - 2));
            }
        }
    }
}

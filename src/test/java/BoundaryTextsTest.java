/** The boundaries of texts: Terms 1, promises 1 to 5 (the tape, text, fault) and 31 to 33 (count, image, again). */
public final class BoundaryTextsTest {
    private static final String TWENTY = "line 0 0 0 0;".repeat(20);
    /** Of each sort a text that tells all that can be told, and none of it as it is at first. */
    private static final String[] FULL = {
        "line 1 5 9 9;line 0 4 8 8;back 1 0;back 0 0;dry 0 1;dry 5 9;child 0;child 5;free 5;cut 6;",
        "say 3;out 1;in 1;dry;prompt;wait;go;",
        "heard 3;gap;heard 5;",
        "houses 7;wall 0 5;wall 5 6;book 0 1;book 6 1;loud 0 8;loud 6 0;"};
    /** Of each sort a text that tells as much, and all of it otherwise. */
    private static final String[] OTHER = {
        "line 0 1 2 3;line 1 2 3 4;line 0 3 4 5;back 0 1;back 2 0;back 1 2;dry 0 7;dry 5 4;child 1;child 2;free 1;cut 2;",
        "go;wait;prompt;dry;in 3;out 4;say 7;say 8;",
        "gap;heard 1;heard 2;gap;",
        "houses 8;wall 0 3;wall 5 9;book 1 1;book 7 1;loud 0 2;loud 6 7;loud 5 1;"};

    public static void main(String[] args) {
        newObject();
        feeding();
        ending();
        numbersThatCantBe();
        tooMany();
        missingLines();
        missingHouses();
        whichFaultIsTold();
        formsOfStatements();
        tokens();
        fullTape();
        atFirst();
        laterOnesStrike();
        textNumbers();
        textsInPlace();
        faultsOfTexts();
        counts();
        images();
        imagesStay();
        lastCall();
        Kit.finish("BoundaryTextsTest");
    }

    private static void fault(int sort, String text, int fault, int place) {
        CellarPrompter x = new CellarPrompter();
        Kit.due("text " + text, Kit.tell(x, sort, -1, text), fault == 0 ? 0 : -1);
        Kit.due("fault of " + text, x.fault(0), fault);
        Kit.due("place in " + text, x.fault(1), place);
        Kit.due("how many behind " + text, x.count(sort), fault == 0 ? 1 : 0);
        Kit.due("the tape behind " + text, x.end(1), -1);
    }

    private static void fine(int sort, String text) {
        fault(sort, text, 0, -1);
    }

    /** Promise 1: no books, evenings, logs, towns; no images; and so no tape, no fault. */
    private static void newObject() {
        CellarPrompter x = new CellarPrompter();
        for (int sort = 0; sort < 4; sort++) {
            Kit.due("new, how many of " + sort, x.count(sort), 0);
        }
        for (int at = -1; at <= 2; at++) {
            Kit.due("new, book " + at, x.book(at, 0), -2);
            Kit.due("new, evening " + at, x.deed(at, -1, 0), -2);
            Kit.due("new, log " + at, x.voice(at, -1), -1);
            Kit.due("new, town " + at, x.town(at, 0), -1);
            Kit.due("new, image " + at, x.again(at), false);
        }
        Kit.due("new, fault", x.fault(0), 0);
        Kit.due("new, place", x.fault(1), -1);
        Kit.due("new, no byte on the tape", x.end(1), -1);
        Kit.due("new, the empty tape", x.end(0), 0);
    }

    /** Promise 2: twenty bytes come; none if there would be more than 600. */
    private static void feeding() {
        for (int size = 576; size <= 584; size++) {
            CellarPrompter x = new CellarPrompter();
            Kit.put(x, " ".repeat(size - 3) + "go;");
            boolean fits = size <= 580;
            Kit.due("feed behind " + size, x.feed(0x676f3b20, 0x20202020, 0x20202020, 0x20202020, 0x20202020),
                fits ? size + 20 : -1);
            Kit.due("the tape has no byte more", x.end(fits ? size + 21 : size + 1), -1);
            Kit.due("the tape has all its bytes", x.end(fits ? size + 20 : size), fits ? size + 20 : size);
            Kit.due("it is a text", x.text(1, -1), 0);
            Kit.due("what came behind " + size, x.deed(0, -1, 0), fits ? 2 : 1);
        }
        CellarPrompter x = new CellarPrompter();
        for (int size = 20; size <= 600; size += 20) {
            Kit.due("feed to " + size, x.feed(0x20202020, 0x20202020, 0x20202020, 0x20202020, 0x20202020), size);
        }
        for (int times = 0; times < 3; times++) {
            Kit.due("feed behind 600", x.feed(0, 0, 0, 0, 0), -1);
        }
        Kit.due("nothing came", x.text(1, -1), 0);
        Kit.due("feed behind a text", x.feed(0, 0, 0, 0, 0), 20);
        eachByte();
    }

    /** Each of twenty bytes in its place, the highest of each number first: a byte that is no token is the fault. */
    private static void eachByte() {
        for (int at = 0; at < 20; at++) {
            for (int sign : new int[] {0, 127, 128, 255}) {
                int[] five = new int[5];
                java.util.Arrays.fill(five, 0x20202020);
                int shift = 24 - 8 * (at % 4);
                five[at / 4] = five[at / 4] & ~(255 << shift) | sign << shift;
                CellarPrompter x = new CellarPrompter();
                x.feed(five[0], five[1], five[2], five[3], five[4]);
                Kit.due("byte " + sign, x.text(0, -1), -1);
                Kit.due("byte " + sign + " at " + at, x.fault(1), at);
            }
        }
    }

    /** Promise 3: the first n bytes alone; refused if there are not so many, or n is below 0. */
    private static void ending() {
        CellarPrompter x = new CellarPrompter();
        Kit.put(x, "go;dry;wait;");
        for (int n : new int[] {13, 14, 600, 601, -1, -2, Integer.MIN_VALUE, Integer.MAX_VALUE}) {
            Kit.due("end " + n + " of 12", x.end(n), -1);
        }
        Kit.due("end 12 of 12", x.end(12), 12);
        Kit.due("end 11 of 12", x.end(11), 11);
        Kit.due("end 12 of 11", x.end(12), -1);
        Kit.due("end 3 of 11", x.end(3), 3);
        Kit.due("bytes come behind the third", x.feed(0x676f3b20, 0x20202020, 0x20202020, 0x20202020, 0x20202020), 23);
        Kit.due("it is a text", x.text(1, -1), 0);
        Kit.due("two deeds", x.deed(0, -1, 0), 2);
        Kit.due("the second one", x.deed(0, 1, 0), 6);
        Kit.due("end 0 of 0", x.end(0), 0);
        Kit.due("end 1 of 0", x.end(1), -1);
        Kit.put(x, "go;");
        Kit.due("end 0 of 3", x.end(0), 0);
        Kit.due("no byte is left", x.end(1), -1);
        Kit.due("the empty text", x.text(1, 0), 0);
        Kit.due("no deeds", x.deed(0, -1, 0), 0);
        Kit.put(x, " ".repeat(600));
        Kit.due("end 601 of 600", x.end(601), -1);
        Kit.due("end 600 of 600", x.end(600), 600);
        Kit.due("end 599 of 600", x.end(599), 599);
        Kit.due("end 600 of 599", x.end(600), -1);
    }

    /** Fault 2 by the limits of each number: fine at the least and the most, a fault one step outside, at its place. */
    private static void numbersThatCantBe() {
        number(0, TWENTY.substring(13), "line ", " 0 0 0;", 0, 19);
        number(0, "", "line 0 ", " 0 0;", 0, 5);
        number(0, "", "line 0 0 ", " 0;", 0, 9);
        number(0, "", "line 0 0 0 ", ";", 0, 9);
        number(0, "", "dry ", " 0;", 0, 5);
        number(0, "", "dry 0 ", ";", 0, 10);
        number(0, TWENTY, "back ", " 0;", 0, 19);
        number(0, TWENTY, "back 0 ", ";", 0, 19);
        number(0, "", "child ", ";", 0, 5);
        number(0, "", "free ", ";", 0, 9);
        number(0, "", "cut ", ";", 1, 9);
        number(1, "", "say ", ";", 0, 19);
        number(1, "", "out ", ";", 0, 5);
        number(1, "", "in ", ";", 0, 5);
        number(2, "", "heard ", ";", 0, 5);
        number(3, "", "houses ", ";", 2, 9);
        number(3, "houses 9;", "wall ", " 1;", 0, 7);
        number(3, "", "wall 0 ", ";", 1, 9);
        number(3, "houses 9;", "book ", " 0;", 0, 8);
        number(3, "", "book 0 ", ";", 0, 1);
        number(3, "houses 9;", "loud ", " 0;", 0, 8);
        number(3, "", "loud 0 ", ";", 0, 9);
    }

    private static void number(int sort, String ahead, String before, String behind, int least, int most) {
        for (int n = 0; n <= 99; n++) {
            boolean can = n >= least && n <= most;
            int place = ahead.length() + before.length();
            fault(sort, ahead + before + n + behind, can ? 0 : 2, can ? -1 : place);
            if (n < 10) {
                fault(sort, ahead + before + "0" + n + behind, can ? 0 : 2, can ? -1 : place);
            }
        }
        // A number below 0 can't be told: the sign is no byte of a text.
        fault(sort, ahead + before + "-1" + behind, 1, ahead.length() + before.length());
    }

    /** Fault 3: a 21st line, a 9th back, a 41st deed, a 13th voice, at its first token. */
    private static void tooMany() {
        fine(0, "line 0 0 0 0;".repeat(19));
        fine(0, TWENTY);
        fault(0, TWENTY + "line 0 0 0 0;", 3, 260);
        fault(0, TWENTY + "line 0 0 0 0;".repeat(2), 3, 260);
        fault(0, TWENTY + "free 1; line 0 0 0 0;", 3, 268);
        for (int backs = 7; backs <= 10; backs++) {
            fault(0, "line 0 0 0 0;" + "back 0 0;".repeat(backs), backs <= 8 ? 0 : 3, backs <= 8 ? -1 : 85);
        }
        fine(0, TWENTY + "back 0 0;".repeat(8) + "dry 0 0;".repeat(20));
        String[] deeds = {"say 0;", "out 0;", "in 0;", "dry;", "prompt;", "wait;", "go;"};
        for (String deed : deeds) {
            for (int many = 39; many <= 42; many++) {
                fault(1, deed.repeat(many), many <= 40 ? 0 : 3, many <= 40 ? -1 : 40 * deed.length());
            }
            fault(1, "wait;".repeat(40) + deed, 3, 200);
        }
        for (String voice : new String[] {"heard 0;", "gap;"}) {
            for (int many = 11; many <= 14; many++) {
                fault(2, voice.repeat(many), many <= 12 ? 0 : 3, many <= 12 ? -1 : 12 * voice.length());
            }
            fault(2, "gap;".repeat(12) + voice, 3, 48);
        }
        // Those that strike may be told as often as the tape has room for.
        fine(0, "free 1;".repeat(85));
        fine(3, "houses 4;".repeat(66));
    }

    /** Fault 4: of a book a line that was told of, by a cue, a back, and is not there. */
    private static void missingLines() {
        for (int lines = 1; lines <= 19; lines++) {
            String rest = "line 0 0 0 0;".repeat(lines - 1);
            for (int line = lines - 1; line <= lines + 1 && line <= 19; line++) {
                boolean there = line < lines;
                String[] texts = {rest + "line " + line + " 0 0 0;", "line " + line + " 0 0 0;" + rest,
                    rest + "line 0 0 0 0;back " + line + " 0;", "back 0 " + line + ";line 0 0 0 0;" + rest};
                for (String text : texts) {
                    fault(0, text, there ? 0 : 4, there ? -1 : text.length());
                }
            }
        }
        fault(0, "back 0 0;", 4, 9);
        fault(0, " back 0 0; \n ", 4, 13);
        fault(0, "line 1 0 0 0;", 4, 13);
        fine(0, "back 0 0;line 0 0 0 0;");
        fine(0, "");
        // An evening tells of lines that need not be there, and a town of books.
        fine(1, "say 19;");
        fine(3, "book 0 1;");
    }

    /** Fault 4: of a town a house, a wall that was told of and is not there; the latest number of houses counts. */
    private static void missingHouses() {
        for (int houses = 2; houses <= 9; houses++) {
            for (int h = 0; h <= 8; h++) {
                String told = "houses " + houses + ";";
                missingHouse(told, "book " + h + " 0;", h < houses);
                missingHouse(told, "loud " + h + " 0;", h < houses);
                if (h <= 7) {
                    missingHouse(told, "wall " + h + " 1;", h < houses - 1);
                }
            }
        }
        missingHouse("", "loud 3 0;", true);
        missingHouse("", "loud 4 0;", false);
        missingHouse("", "book 3 0;", true);
        missingHouse("", "book 4 0;", false);
        missingHouse("", "wall 2 1;", true);
        missingHouse("", "wall 3 1;", false);
        fault(3, "houses 9;loud 8 1;houses 8;", 4, 27);
        fine(3, "houses 8;loud 8 1;houses 9;");
        fault(3, "houses 9;wall 7 1;houses 8; ", 4, 28);
        fine(3, "houses 2;wall 7 1;houses 9;");
    }

    private static void missingHouse(String houses, String told, boolean there) {
        fault(3, houses + told, there ? 0 : 4, there ? -1 : houses.length() + told.length());
        fault(3, told + houses, there ? 0 : 4, there ? -1 : houses.length() + told.length());
    }

    /** Fault 1 ahead of all; then 2 and 3 by place; 4 if there is none of these. */
    private static void whichFaultIsTold() {
        fault(0, "cut 0;x", 1, 6);
        fault(0, "cut 0;cut 1", 1, 11);
        fault(0, TWENTY + "line 0 0 0 0;;", 1, 273);
        fault(0, "line 5 0 0 0;*", 1, 13);
        fault(0, "cut 0;" + "line 0 0 0 0;".repeat(21), 2, 4);
        fault(0, "line 0 0 0 0;".repeat(21) + "cut 0;", 3, 260);
        fault(0, TWENTY + "cut 0;line 0 0 0 0;", 2, 264);
        fault(0, TWENTY + "line 20 6 10 10;", 3, 260);
        fault(0, TWENTY.substring(13) + "line 0 0 0 10;line 0 0 0 0;", 2, 258);
        fault(0, "line 20 6 10 10;", 2, 5);
        fault(0, "line 0 6 10 10;", 2, 7);
        fault(0, "back 0 20;", 2, 7);
        fault(0, "back 20 20;", 2, 5);
        fault(0, "line 5 0 0 0;cut 0;", 2, 17);
        fault(0, "back 0 0;".repeat(9), 3, 72);
        fault(1, "say 20;" + "go;".repeat(40), 2, 4);
        fault(1, "go;".repeat(40) + "say 20;", 3, 120);
        fault(2, "gap;".repeat(12) + "heard 6;", 3, 48);
        fault(2, "gap;".repeat(11) + "heard 6;gap;", 2, 50);
        fault(3, "loud 8 0;houses 1;", 2, 16);
        fault(3, "loud 8 10;", 2, 7);
        fault(3, "book 9 2;", 2, 5);
    }

    /** Each statement with as many numbers as it has; one fewer, one more, no end, two ends. */
    private static void formsOfStatements() {
        String[][] words = {{"line4", "dry2", "back2", "child1", "free1", "cut1"},
            {"say1", "out1", "in1", "dry0", "prompt0", "wait0", "go0"}, {"heard1", "gap0"},
            {"houses1", "wall2", "book2", "loud2"}};
        for (int sort = 0; sort < 4; sort++) {
            String ahead = sort == 0 ? "line 0 0 0 0; line 0 0 0 0;" : sort == 3 ? "houses 4;" : "";
            for (String word : words[sort]) {
                int numbers = word.charAt(word.length() - 1) - '0';
                String name = word.substring(0, word.length() - 1);
                // 1 is a number that each of them may have, but houses.
                String one = name.equals("houses") ? " 4" : " 1";
                for (int have = 0; have <= 5; have++) {
                    String told = ahead + name + one.repeat(have);
                    int place = ahead.length() + name.length() + 2 * Math.min(have, numbers);
                    boolean right = have == numbers;
                    int unfit = have < numbers ? place : place + 1;
                    fault(sort, told + ";", right ? 0 : 1, right ? -1 : unfit);
                    fault(sort, told, 1, have <= numbers ? told.length() : unfit);
                    fault(sort, told + ";;", 1, right ? told.length() + 1 : unfit);
                }
                for (int other = 0; other < 4; other++) {
                    boolean has = other == sort || name.equals("dry") && other <= 1;
                    if (!has) {
                        fault(other, name + one.repeat(numbers) + ";", 1, 0);
                    }
                }
                fault(sort, name.substring(1) + one.repeat(numbers) + ";", 1, 0);
                fault(sort, name + "x" + one.repeat(numbers) + ";", 1, 0);
            }
        }
    }

    /** Tokens as long as they go; blanks are 10 and 32 alone, letters a to z, numbers of one or two digits. */
    private static void tokens() {
        for (int sign = 0; sign < 256; sign++) {
            String byteOf = String.valueOf((char) sign);
            boolean blank = sign == 10 || sign == 32;
            boolean digit = sign >= '0' && sign <= '9';
            fault(1, "go" + byteOf + ";", blank ? 0 : 1, blank ? -1 : isLetter(sign) ? 0 : sign == ';' ? 3 : 2);
            fault(1, byteOf + "go;", blank ? 0 : 1, blank ? -1 : 0);
            fault(1, "go;" + byteOf, blank ? 0 : 1, blank ? -1 : 3);
            fault(1, "say 1" + byteOf + ";", blank || digit ? 0 : 1,
                blank || digit ? -1 : sign == ';' ? 6 : 5);
            fault(1, "say 01" + byteOf + ";", blank ? 0 : 1, blank ? -1 : digit ? 4 : sign == ';' ? 7 : 6);
        }
        fine(1, "say0;say1;go;");
        fine(1, "say\n0\n;\n\n  say 1 ;");
        fault(1, "sa y 0;", 1, 0);
        fault(1, "say 1 1;", 1, 6);
        fault(1, "saygo;", 1, 0);
        fault(1, "say 000;", 1, 4);
        fault(1, "say 0001;", 1, 4);
        fault(1, "say 19;say 190;", 1, 11);
        fault(0, "line00 00 00 00;line 0 0 0 0;back 00 01;dry 05 10;", 0, -1);
        fault(0, "line 0 0 0 0 ; line 000 0 0 0;", 1, 20);
        Kit.due("01 is 1", Edges.evening("", "say 01;").deed(0, 0, 1), 1);
        Kit.due("19 is 19", Edges.evening("", "say 19;").deed(0, 0, 1), 19);
        for (int sort = 0; sort < 4; sort++) {
            fine(sort, "");
            fine(sort, " ");
            fine(sort, "\n \n");
            fault(sort, ";", 1, 0);
            fault(sort, " 0", 1, 1);
        }
    }

    private static boolean isLetter(int sign) {
        return sign >= 'a' && sign <= 'z';
    }

    /** The tape has at most 600 bytes, and each of them is read; the end's place is behind the last one. */
    private static void fullTape() {
        fine(0, " ".repeat(600));
        fault(0, " ".repeat(599) + "x", 1, 599);
        fault(1, " ".repeat(598) + "go", 1, 600);
        fault(1, " ".repeat(597) + "go", 1, 599);
        fault(0, "line 1 0 0 0;" + " ".repeat(587), 4, 600);
        fault(3, " ".repeat(591) + "loud 4 0;", 4, 600);
        fault(0, " ".repeat(594) + "cut 0;", 2, 598);
        CellarPrompter x = Edges.book("free1;".repeat(99) + "free2;");
        Kit.due("the last of 600 bytes tell", x.book(0, 1), 2);
        // As many tokens as a text can have, and as many as there can be.
        x = Edges.book("cut1;".repeat(119) + "cut2;");
        Kit.due("the last of 360 tokens tells", x.book(0, 2), 2);
        fault(0, ";".repeat(600), 1, 0);
        fault(0, "cut1;".repeat(119) + "cut0;", 2, 598);
        x = Edges.evening("", " ".repeat(597) + "go;");
        Kit.due("a deed at the tape's end", x.deed(0, -1, 0), 1);
    }

    /** What is so at first, if it is not told. */
    private static void atFirst() {
        CellarPrompter x = Kit.with("", "", "", "");
        Edges.row("at first, book", -2, what -> x.book(0, what), 0, 3, 3);
        Edges.row("at first, how likely one dries", -2, p -> x.book(0, 10 + p), 2, 2, 2, 2, 2, 2);
        Edges.row("at first, no child", -2, p -> x.book(0, 20 + p), 0, 0, 0, 0, 0, 0);
        Kit.due("at first, deeds", x.deed(0, -1, 0), 0);
        Kit.due("at first, voices", x.voice(0, -1), 0);
        Kit.due("at first, houses", x.town(0, 0), 4);
        Edges.row("at first, walls", -1, h -> x.town(0, 10 + h), 2, 2, 2);
        Edges.row("at first, books", -1, h -> x.town(0, 20 + h), 0, 0, 0, 0);
        Edges.row("at first, loud", -1, h -> x.town(0, 30 + h), 3, 3, 3, 3);
        CellarPrompter y = Edges.town("houses 9;");
        Edges.row("nine houses, walls", -1, h -> y.town(0, 10 + h), 2, 2, 2, 2, 2, 2, 2, 2);
        Edges.row("nine houses, loud", -1, h -> y.town(0, 30 + h), 3, 3, 3, 3, 3, 3, 3, 3, 3);
    }

    /** Later ones strike, but lines, backs, deeds, voices, which are further ones. */
    private static void laterOnesStrike() {
        CellarPrompter x = Kit.with("dry 3 0;dry 3 10;dry 4 10;dry 4 0;child 2;child 2;free 9;free 0;cut 1;cut 9;"
            + "line 0 1 2 3;line 0 1 2 3;line 0 1 2 3;back 1 0;back 1 2;", "go;go;", "gap;gap;",
            "houses 2;houses 3;wall 1 9;wall 1 1;book 2 1;book 2 0;loud 2 9;loud 2 0;book 1 0;book 1 1;");
        Kit.due("struck, dry", x.book(0, 13), 10);
        Kit.due("struck, dry", x.book(0, 14), 0);
        Kit.due("struck, child", x.book(0, 22), 1);
        Kit.due("struck, free", x.book(0, 1), 0);
        Kit.due("struck, cut", x.book(0, 2), 9);
        Kit.due("further lines", x.book(0, 0), 3);
        Kit.due("further backs", x.book(0, 601), 2);
        Kit.due("further deeds", x.deed(0, -1, 0), 2);
        Kit.due("further voices", x.voice(0, -1), 2);
        Kit.due("struck, houses", x.town(0, 0), 3);
        Kit.due("struck, wall", x.town(0, 11), 1);
        Kit.due("struck, book", x.town(0, 22), 0);
        Kit.due("struck, book", x.town(0, 21), 1);
        Kit.due("struck, loud", x.town(0, 32), 0);
    }

    /** Promise 4: a further one, or in the place of one; -2 if there is none such, as many as may be, no such sort. */
    private static void textNumbers() {
        CellarPrompter x = new CellarPrompter();
        for (int sort = 0; sort < 4; sort++) {
            for (int have = 0; have <= 2; have++) {
                for (int at : new int[] {Integer.MIN_VALUE, -3, -2, have, have + 1, 3, Integer.MAX_VALUE}) {
                    refused(x, sort, at, sort, have);
                }
                for (int at = 0; at < have; at++) {
                    Kit.due("in the place of " + at + " of " + have, Kit.tell(x, sort, at, ""), at);
                }
                if (have < 2) {
                    Kit.due("a further one behind " + have, Kit.tell(x, sort, -1, ""), have);
                } else {
                    refused(x, sort, -1, sort, 2);
                }
            }
        }
        for (int sort : new int[] {Integer.MIN_VALUE, -2, -1, 4, 5, Integer.MAX_VALUE}) {
            for (int at = -2; at <= 2; at++) {
                refused(x, sort, at, 0, 2);
            }
        }
    }

    /** No text is read, the tape is taken, the fault is 0, and all that was told is as it was. */
    private static void refused(CellarPrompter x, int sort, int at, int counted, int have) {
        String call = "text " + sort + " " + at + " behind " + have;
        Kit.tell(x, 0, -1, "no text");
        Kit.put(x, "no text");
        Kit.due(call, x.text(sort, at), -2);
        Kit.due(call + ", fault", x.fault(0), 0);
        Kit.due(call + ", place", x.fault(1), -1);
        Kit.due(call + ", tape", x.end(1), -1);
        Kit.due(call + ", how many", x.count(counted), have);
    }

    /** A text in the place of one leaves nothing of it; a faulty one leaves all of it. */
    private static void textsInPlace() {
        CellarPrompter x = Kit.with(FULL[0], FULL[1], FULL[2], FULL[3]);
        CellarPrompter same = Kit.with(FULL[0], FULL[1], FULL[2], FULL[3]);
        for (int sort = 0; sort < 4; sort++) {
            Kit.due("a faulty text", Kit.tell(x, sort, 0, "x"), -1);
            Kit.due("a faulty further one", Kit.tell(x, sort, -1, "x"), -1);
            Kit.due("there is one, as before", x.count(sort), 1);
        }
        alike("faulty texts", x, same);
        for (int sort = 0; sort < 4; sort++) {
            Kit.due("an empty text", Kit.tell(x, sort, 0, ""), 0);
        }
        alike("empty texts in the place of full ones", x, Kit.with("", "", "", ""));
        for (int sort = 0; sort < 4; sort++) {
            Kit.due("a full text", Kit.tell(x, sort, 0, FULL[sort]), 0);
        }
        alike("full texts in the place of empty ones", x, same);
        Kit.due("one line alone", Kit.tell(x, 0, 0, "line 0 0 0 0;line 0 0 0 0;"), 0);
        Kit.due("no backs are left", x.book(0, 600), 1);
        Kit.due("all houses", Kit.tell(x, 3, 0, "houses 9;"), 0);
        Kit.due("no wall is left", x.town(0, 15), 2);
        Kit.due("no book is left", x.town(0, 26), 0);
        Kit.due("no loud is left", x.town(0, 36), 3);
        for (int sort = 0; sort < 4; sort++) {
            CellarPrompter y = Kit.with(FULL[0], FULL[1], FULL[2], FULL[3]);
            Kit.due("a second one", Kit.tell(y, sort, -1, ""), 1);
            alike("a second one leaves the first", y, same);
            Kit.due("in the second's place", Kit.tell(y, sort, 1, FULL[sort]), 1);
            Kit.due("in the first's place", Kit.tell(y, sort, 0, ""), 0);
            Kit.due("the second is as told", second(y, sort), second(sort));
        }
    }

    private static long second(CellarPrompter x, int sort) {
        return sort == 0 ? x.book(1, 1) : sort == 1 ? x.deed(1, -1, 0) : sort == 2 ? x.voice(1, -1) : x.town(1, 0);
    }

    private static long second(int sort) {
        return new long[] {5, 7, 3, 7}[sort];
    }

    /** All that is told of the first of each sort is the same of both objects. */
    private static void alike(String call, CellarPrompter x, CellarPrompter y) {
        for (int what = 0; what < 700; what++) {
            Kit.due(call + ", book " + what, x.book(0, what), y.book(0, what));
        }
        for (int k = -1; k <= 40; k++) {
            Kit.due(call + ", deed " + k, x.deed(0, k, 0), y.deed(0, k, 0));
            Kit.due(call + ", its number " + k, x.deed(0, k, 1), y.deed(0, k, 1));
            Kit.due(call + ", voice " + k, x.voice(0, k), y.voice(0, k));
            for (int line = 0; line < 20; line++) {
                Kit.due(call + ", follower " + line + " " + k, x.follower(0, line, k), y.follower(0, line, k));
            }
        }
        for (int what = 0; what < 50; what++) {
            Kit.due(call + ", town " + what, x.town(0, what), y.town(0, what));
        }
    }

    /** Promise 5: of the latest text(), whatever came of it; what 0 and 1 alone. */
    private static void faultsOfTexts() {
        CellarPrompter x = new CellarPrompter();
        String[] texts = {"", "x", "cut 0;", "line 0 0 0 0;".repeat(21), "back 0 0;", "free 9;"};
        int[] faults = {0, 1, 2, 3, 4, 0};
        int[] places = {-1, 0, 4, 260, 9, -1};
        for (int i = 0; i < texts.length; i++) {
            Kit.due("text " + texts[i], Kit.tell(x, 0, i == 0 ? -1 : 0, texts[i]), faults[i] == 0 ? 0 : -1);
            Kit.put(x, "cut 0;");
            x.feed(0, 0, 0, 0, 0);
            x.end(601);
            Kit.due("fault of " + texts[i], x.fault(0), faults[i]);
            Kit.due("place of " + texts[i], x.fault(1), places[i]);
            for (int what : new int[] {Integer.MIN_VALUE, -2, -1, 2, 3, Integer.MAX_VALUE}) {
                Kit.due("fault " + what + " of " + texts[i], x.fault(what), -1);
            }
        }
    }

    /** Promise 31: how many there are of a sort, 0 to 3; -2 for another one. */
    private static void counts() {
        CellarPrompter x = new CellarPrompter();
        for (int have = 0; have <= 2; have++) {
            for (int sort = 0; sort < 4; sort++) {
                Kit.due("how many of " + sort, x.count(sort), have);
                int next = Kit.tell(x, sort, -1, "");
                Kit.due("a further one of " + sort, next, have < 2 ? have : -2);
                Kit.due("how many of " + sort, x.count(sort), Math.min(2, have + 1));
                Edges.range("count", 0, 3, -2, x::count);
            }
        }
    }

    /** Promises 32 and 33: images 0 to 2 alone; all that is told, the tape and the fault, too. */
    private static void images() {
        CellarPrompter x = new CellarPrompter();
        for (int k : new int[] {Integer.MIN_VALUE, -2, -1, 3, 4, Integer.MAX_VALUE}) {
            Kit.due("image " + k, x.image(k), false);
            Kit.due("again " + k, x.again(k), false);
        }
        for (int k = 0; k <= 2; k++) {
            Kit.due("no image " + k + " yet", x.again(k), false);
            Kit.due("image " + k, x.image(k), true);
            Kit.due("again " + k, x.again(k), true);
            Kit.due("image " + (k + 1) + " is not there", x.again(k + 1), false);
        }
        for (int sort = 0; sort < 4; sort++) {
            Kit.due("told", Kit.tell(x, sort, -1, FULL[sort]), 0);
            Kit.due("told", Kit.tell(x, sort, -1, ""), 1);
        }
        Kit.due("a fault", Kit.tell(x, 0, 0, "cut 0;"), -1);
        Kit.put(x, "go;wait;");
        Kit.due("again ahead of all", x.again(1), true);
        Kit.due("no tape then", x.end(1), -1);
        Kit.due("no fault then", x.fault(0), 0);
        Kit.due("no place then", x.fault(1), -1);
        for (int sort = 0; sort < 4; sort++) {
            Kit.due("none of " + sort, x.count(sort), 0);
            Kit.due("in the place of none", x.text(sort, 0), -2);
        }
        Kit.due("no book", x.book(0, 0), -2);
        Kit.due("no evening", x.deed(0, -1, 0), -2);
        Kit.due("no log", x.voice(0, -1), -1);
        Kit.due("no town", x.town(0, 0), -1);
        for (int sort = 0; sort < 4; sort++) {
            Kit.due("the first one again", Kit.tell(x, sort, -1, ""), 0);
        }
        alike("behind again", x, Kit.with("", "", "", ""));
    }

    /** An image is as it was, whatever comes behind it, and again() leaves it so; a refused call changes nothing. */
    private static void imagesStay() {
        CellarPrompter same = Kit.with(FULL[0], FULL[1], FULL[2], FULL[3]);
        CellarPrompter x = Kit.with(FULL[0], FULL[1], FULL[2], FULL[3]);
        Kit.due("a fault", Kit.tell(x, 2, 0, "heard 6;"), -1);
        Kit.put(x, "go;go;go;");
        Kit.due("image 2", x.image(2), true);
        for (int round = 0; round < 3; round++) {
            Kit.due("the tape is taken as a text", x.text(1, 0), 0);
            for (int sort = 0; sort < 4; sort++) {
                Kit.due("another text", Kit.tell(x, sort, 0, round == 1 ? "" : OTHER[sort]), 0);
                Kit.due("a further text", Kit.tell(x, sort, -1, FULL[sort]), 1);
            }
            Kit.put(x, "x".repeat(600));
            Kit.due("no such image", x.image(3), false);
            Kit.due("no image 0", x.again(0), false);
            Kit.due("no image 0: all is as it was", x.count(0), 2);
            Kit.due("no image 0: the tape is as it was", x.end(600), 600);
            Kit.due("again", x.again(2), true);
            alike("again 2", x, same);
            Kit.due("the harm in it", x.worst(0, 20, 9, false), same.worst(0, 20, 9, false));
            Kit.due("the fault", x.fault(0), 2);
            Kit.due("its place", x.fault(1), 6);
            Kit.due("one byte too many", x.end(10), -1);
            for (int sort = 0; sort < 4; sort++) {
                Kit.due("one of " + sort, x.count(sort), 1);
            }
        }
        Kit.due("the tape's bytes", x.text(1, -1), 1);
        Kit.due("three deeds", x.deed(1, -1, 0), 3);
        Kit.due("another image in its place", x.image(2), true);
        Kit.due("told behind it", Kit.tell(x, 1, 1, ""), 1);
        Kit.due("again", x.again(2), true);
        Kit.due("as the later image has it", x.deed(1, -1, 0), 3);
        imagesOfSeconds();
        fullTapeInImage();
    }

    /** The second of each sort is in the image, too; each image has its own. */
    private static void imagesOfSeconds() {
        CellarPrompter x = Kit.with(FULL[0], FULL[1], FULL[2], FULL[3]);
        for (int sort = 0; sort < 4; sort++) {
            Kit.due("a second one", Kit.tell(x, sort, -1, OTHER[sort]), 1);
        }
        Kit.due("image 0", x.image(0), true);
        for (int sort = 0; sort < 4; sort++) {
            Kit.due("the first one", Kit.tell(x, sort, 0, OTHER[sort]), 0);
            Kit.due("the second one", Kit.tell(x, sort, 1, FULL[sort]), 1);
        }
        Kit.due("image 1", x.image(1), true);
        for (int round = 0; round < 4; round++) {
            Kit.due("again", x.again(round % 2), true);
            String[] first = round % 2 == 0 ? FULL : OTHER;
            alike("the first ones of image " + round % 2, x, Kit.with(first[0], first[1], first[2], first[3]));
            int[] seconds = round % 2 == 0 ? new int[] {3, 8, 4, 8} : new int[] {2, 7, 3, 7};
            Kit.due("the second book", x.book(1, 0), seconds[0]);
            Kit.due("the second evening", x.deed(1, -1, 0), seconds[1]);
            Kit.due("the second log", x.voice(1, -1), seconds[2]);
            Kit.due("the second town", x.town(1, 0), seconds[3]);
        }
    }

    private static void fullTapeInImage() {
        CellarPrompter x = new CellarPrompter();
        Kit.put(x, " ".repeat(597) + "go;");
        Kit.due("image 0", x.image(0), true);
        Kit.put(x, "y".repeat(600));
        Kit.due("image 1", x.image(1), true);
        Kit.due("again 0", x.again(0), true);
        Kit.due("the tape is full", x.feed(0, 0, 0, 0, 0), -1);
        Kit.due("its last bytes", x.text(1, -1), 0);
        Kit.due("one deed", x.deed(0, -1, 0), 1);
        Kit.due("again 1", x.again(1), true);
        Kit.due("no text", x.text(1, -1), -1);
        Kit.due("no evening", x.count(1), 0);
    }

    /** An object is used for at most 512 calls: the last of them still answers as the first. */
    private static void lastCall() {
        CellarPrompter x = new CellarPrompter();
        x.feed(0x20202020, 0x20202020, 0x20202020, 0x20202020, 0x20202020);
        x.end(20);
        x.text(0, -1);
        for (int call = 4; call <= 511; call++) {
            x.image(call % 3);
        }
        Kit.due("the 512th call", x.book(0, 1), 3);
    }
}

/** What the tests share: feeding a text to an object, and counting answers that are not the due ones. */
final class Kit {
    private static int checks = 0;
    private static int wrong = 0;

    private Kit() {
    }

    static void due(String call, long got, long want) {
        checks++;
        if (got != want) {
            wrong++;
            if (wrong <= 50) {
                System.out.println(call + " answered " + got + ", due is " + want);
            }
        }
    }

    static void due(String call, boolean got, boolean want) {
        due(call, got ? 1 : 0, want ? 1 : 0);
    }

    /** Puts a text on the tape, and nothing else. */
    static void put(CellarPrompter x, String text) {
        x.end(0);
        int[] five = new int[5];
        for (int at = 0; at < text.length(); at += 20) {
            for (int i = 0; i < 5; i++) {
                five[i] = 0;
                for (int j = 0; j < 4; j++) {
                    int place = at + i * 4 + j;
                    five[i] = five[i] << 8 | (place < text.length() ? text.charAt(place) & 255 : ' ');
                }
            }
            x.feed(five[0], five[1], five[2], five[3], five[4]);
        }
        if (x.end(text.length()) != text.length()) {
            throw new IllegalStateException("the text does not go on the tape: " + text);
        }
    }

    static int tell(CellarPrompter x, int sort, int at, String text) {
        put(x, text);
        return x.text(sort, at);
    }

    /** An object with one text of each sort; null tells none of it. */
    static CellarPrompter with(String book, String evening, String log, String town) {
        CellarPrompter x = new CellarPrompter();
        String[] texts = {book, evening, log, town};
        for (int sort = 0; sort < 4; sort++) {
            if (texts[sort] != null && tell(x, sort, -1, texts[sort]) != 0) {
                throw new IllegalStateException("fault " + x.fault(0) + " at " + x.fault(1) + ": " + texts[sort]);
            }
        }
        return x;
    }

    static void finish(String name) {
        System.out.println(name + ": " + checks + " answers, " + wrong + " not as due");
        if (wrong != 0) {
            System.exit(1);
        }
    }
}

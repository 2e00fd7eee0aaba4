/** A prompter in every cellar: books, evenings, logs and towns told as texts, and what follows from them. */
public final class CellarPrompter {
    public static final int NONE = -1;

    private static final int NO_SUCH = -2;
    private static final int PEOPLE = 6;
    private static final int SCENES = 10;
    private static final int IMAGES = 3;
    /** More than any number of strayings, lines or harm that a way can have. */
    private static final int FAR = 1000000;

    private final Told told = new Told();
    private final Told[] images = new Told[IMAGES];
    private final Reader reader = new Reader();
    private final Stage stage = new Stage();
    private final Paths paths = new Paths();
    private final Odds odds = new Odds();
    private final Merger merger = new Merger();
    private final Fitting fitting = new Fitting();

    public CellarPrompter() {
    }

    public int feed(int a, int b, int c, int d, int e) {
        if (told.size + 20 > Told.MOST_BYTES) {
            return NONE;
        }
        told.addNumber(a);
        told.addNumber(b);
        told.addNumber(c);
        told.addNumber(d);
        told.addNumber(e);
        return told.size;
    }

    public int end(int n) {
        if (n < 0 || n > told.size) {
            return NONE;
        }
        told.size = n;
        return n;
    }

    public int text(int sort, int at) {
        int have = told.howMany(sort);
        boolean mayBeTold = at == NONE ? have >= 0 && have < Told.MOST : at >= 0 && at < have;
        if (!mayBeTold) {
            told.size = 0;
            told.fault = 0;
            told.place = NONE;
            return NO_SUCH;
        }
        reader.read(told, sort);
        told.size = 0;
        told.fault = reader.fault;
        told.place = reader.place;
        if (reader.fault != 0) {
            return NONE;
        }
        if (at == NONE) {
            told.addOne(sort);
        }
        int to = at == NONE ? have : at;
        reader.fill(told, sort, to);
        return to;
    }

    public int fault(int what) {
        if (what == 0) {
            return told.fault;
        }
        return what == 1 ? told.place : NONE;
    }

    public int book(int book, int what) {
        Book b = told.bookAt(book);
        return b == null ? NO_SUCH : b.show(what);
    }

    public int follower(int book, int line, int k) {
        Book b = told.bookAt(book);
        return b == null ? NONE : b.following(line, k);
    }

    public int deed(int evening, int k, int what) {
        Evening e = told.eveningAt(evening);
        return e == null ? NO_SUCH : e.show(k, what);
    }

    public int till(int book, int evening) {
        Book b = told.bookAt(book);
        Evening e = told.eveningAt(evening);
        if (b == null || e == null) {
            return NONE;
        }
        return stage.play(b, e, e.deeds);
    }

    public int state(int book, int evening, int n, int what) {
        Book b = told.bookAt(book);
        Evening e = told.eveningAt(evening);
        if (b == null || e == null || n < 0 || n > e.deeds) {
            return NO_SUCH;
        }
        if (stage.play(b, e, n) < n) {
            return NO_SUCH;
        }
        return stage.show(b, what);
    }

    public int avoid(int book, int scene, int n, int k) {
        Book b = told.bookAt(book);
        if (b == null || !isScene(scene) || n < 1 || n > 20 || k < NONE) {
            return NONE;
        }
        int fewest = paths.fewestWithout(b, scene, n);
        if (k == NONE || fewest == NONE) {
            return fewest;
        }
        return paths.lineWithout(b, n, k);
    }

    public int soonest(int book, int scene, int k) {
        Book b = told.bookAt(book);
        if (b == null || !isScene(scene) || k < 0 || k > 9) {
            return NONE;
        }
        return paths.linesUpTo(b, scene, k);
    }

    public int together(int book, int a, int b) {
        Book inIt = told.bookAt(book);
        if (inIt == null || !isPerson(a) || !isPerson(b)) {
            return NONE;
        }
        return paths.linesUntilBoth(inIt, a, b);
    }

    public long comes(int book, int scene, int n, boolean prompter, boolean under) {
        Book b = told.bookAt(book);
        if (b == null || !isScene(scene) || n < 1 || n > Odds.MOST_LINES) {
            return NONE;
        }
        odds.gather(b, scene, n, prompter);
        return under ? odds.below : odds.above;
    }

    public long harm(int book, int n, boolean prompter, boolean under) {
        Book b = told.bookAt(book);
        if (b == null || n < 1 || n > Odds.MOST_LINES) {
            return NONE;
        }
        odds.gather(b, NONE, n, prompter);
        return under ? odds.below : odds.above;
    }

    public int loop(int book, boolean length) {
        Book b = told.bookAt(book);
        if (b == null) {
            return NONE;
        }
        return length ? b.lengthWithout(NONE) : b.lengthOfLoop();
    }

    public int merged(int one, int other, int n, int k) {
        Book b = told.bookAt(one);
        Book c = told.bookAt(other);
        if (b == null || c == null || n < 1 || n > Merger.MOST_LINES) {
            return NONE;
        }
        merger.merge(b, c, n);
        if (k == NO_SUCH) {
            return merger.common();
        }
        return k == NONE ? merger.length : merger.person(k);
    }

    public int voice(int log, int k) {
        Log g = told.logAt(log);
        return g == null ? NONE : g.show(k);
    }

    public long fits(int book, int log, int what) {
        Book b = told.bookAt(book);
        Log g = told.logAt(log);
        if (b == null || g == null) {
            return NO_SUCH;
        }
        return fitting.show(b, g, what);
    }

    public int town(int town, int what) {
        Town t = told.townAt(town);
        return t == null ? NONE : t.show(what);
    }

    public int drawn(int book, int seed, int n, int what) {
        Book b = told.bookAt(book);
        if (b == null || b.lines == 0 || n < 0 || n > 60) {
            return NO_SUCH;
        }
        stage.playDrawn(b, seed, n);
        return stage.show(b, what);
    }

    public int bar(int book, int scene) {
        Book b = told.bookAt(book);
        return b == null || !isScene(scene) ? NONE : paths.fewestOut(b, scene);
    }

    public int must(int book, int scene) {
        Book b = told.bookAt(book);
        return b == null || !isScene(scene) ? NONE : paths.neededFor(b, scene);
    }

    public long ways(int book, int n) {
        Book b = told.bookAt(book);
        return b == null || n < 1 || n > 12 ? NONE : paths.howManyWays(b, n);
    }

    public int worst(int book, int n, int k, boolean mild) {
        Book b = told.bookAt(book);
        if (b == null || b.lines == 0 || n < 1 || n > 20 || k < 0 || k > 9) {
            return NONE;
        }
        return paths.harmOfWay(b, n, k, mild);
    }

    public int lost(int book, boolean length) {
        Book b = told.bookAt(book);
        if (b == null || b.lines < 2) {
            return NONE;
        }
        int line = b.shortestWithout();
        return length ? b.lengthWithout(line) : line;
    }

    public int force(int book, int scene, int people) {
        Book b = told.bookAt(book);
        if (b == null || !isScene(scene) || people < 0 || people >= 1 << PEOPLE) {
            return NONE;
        }
        return paths.linesForSure(b, scene, people);
    }

    public long prompts(int book, int n, boolean under) {
        Book b = told.bookAt(book);
        if (b == null || n < 1 || n > 20) {
            return NONE;
        }
        odds.driesByNext(b, n);
        return under ? odds.below : odds.above;
    }

    public int parted(int one, int other) {
        Book b = told.bookAt(one);
        Book c = told.bookAt(other);
        return b == null || c == null ? NONE : merger.firstUnlike(b, c);
    }

    public int after(int book, int evening, int what) {
        Book b = told.bookAt(book);
        Evening e = told.eveningAt(evening);
        if (b == null || e == null) {
            return NO_SUCH;
        }
        switch (what) {
            case 0:
                return stage.longestSilence(b, e);
            case 1:
                return stage.loudest(b, e);
            case 2:
                return stage.firstFined(b, e);
            default:
                return NO_SUCH;
        }
    }

    public int count(int sort) {
        return told.howMany(sort);
    }

    public boolean image(int k) {
        if (k < 0 || k >= IMAGES) {
            return false;
        }
        Told kept = images[k];
        if (kept == null) {
            kept = new Told();
            images[k] = kept;
        }
        kept.copy(told);
        return true;
    }

    public boolean again(int k) {
        if (k < 0 || k >= IMAGES) {
            return false;
        }
        Told kept = images[k];
        if (kept == null) {
            return false;
        }
        told.copy(kept);
        return true;
    }

    private static boolean isScene(int scene) {
        return scene >= 0 && scene < SCENES;
    }

    private static boolean isPerson(int person) {
        return person >= 0 && person < PEOPLE;
    }

    /** All that an image keeps: the tape, the latest fault, and what was told. */
    private static final class Told {
        static final int MOST_BYTES = 600;
        static final int SORTS = 4;
        static final int MOST = 2;

        private final byte[] tape = new byte[MOST_BYTES];
        private final int[] counts = new int[SORTS];
        private final Book[] books = new Book[MOST];
        private final Evening[] evenings = new Evening[MOST];
        private final Log[] logs = new Log[MOST];
        private final Town[] towns = new Town[MOST];
        int size;
        int fault;
        int place = NONE;

        Told() {
            for (int i = 0; i < MOST; i++) {
                books[i] = new Book();
                evenings[i] = new Evening();
                logs[i] = new Log();
                towns[i] = new Town();
            }
        }

        void addNumber(int number) {
            for (int shift = 24; shift >= 0 && size < MOST_BYTES; shift -= 8) {
                tape[size] = (byte) (number >>> shift);
                size++;
            }
        }

        int byteAt(int at) {
            return at >= 0 && at < size && at < MOST_BYTES ? tape[at] & 255 : NONE;
        }

        int howMany(int sort) {
            return sort >= 0 && sort < SORTS ? counts[sort] : NO_SUCH;
        }

        void addOne(int sort) {
            if (sort >= 0 && sort < SORTS && counts[sort] < MOST) {
                counts[sort]++;
            }
        }

        Book bookAt(int number) {
            return number >= 0 && number < counts[0] && number < MOST ? books[number] : null;
        }

        Evening eveningAt(int number) {
            return number >= 0 && number < counts[1] && number < MOST ? evenings[number] : null;
        }

        Log logAt(int number) {
            return number >= 0 && number < counts[2] && number < MOST ? logs[number] : null;
        }

        Town townAt(int number) {
            return number >= 0 && number < counts[3] && number < MOST ? towns[number] : null;
        }

        void copy(Told from) {
            System.arraycopy(from.tape, 0, tape, 0, MOST_BYTES);
            System.arraycopy(from.counts, 0, counts, 0, SORTS);
            size = from.size;
            fault = from.fault;
            place = from.place;
            for (int i = 0; i < MOST; i++) {
                books[i].copy(from.books[i]);
                evenings[i].copy(from.evenings[i]);
                logs[i].copy(from.logs[i]);
                towns[i].copy(from.towns[i]);
            }
        }
    }

    /** Reads the tape as a text of a sort: first its tokens, then its faults, then what it tells. */
    private static final class Reader {
        /** What a token is. The last token of a text is always an END or an UNFIT one. */
        private static final int WORD = 0;
        private static final int NUMBER = 1;
        private static final int SEMICOLON = 2;
        private static final int UNFIT = 3;
        private static final int END = 4;

        private static final int LINE = 0;
        private static final int BOOK_DRY = 1;
        private static final int BACK = 2;
        private static final int CHILD = 3;
        private static final int FREE = 4;
        private static final int CUT = 5;
        private static final int SAY = 6;
        private static final int HEARD = 13;
        private static final int HOUSES = 15;
        private static final int WALL = 16;
        private static final int HOUSE_BOOK = 17;
        private static final int LOUD = 18;

        /** The first word of each sort; words of a sort stand together, the deeds in the order of their numbers. */
        private static final int[] FIRST_WORD = {0, 6, 13, 15, 19};
        private static final int[] NUMBERS = {4, 2, 2, 1, 1, 1, 1, 1, 1, 0, 0, 0, 0, 1, 0, 1, 2, 2, 2};
        /** Of each word's numbers, four places a word: the least and the most that can be. */
        private static final int[] LEAST = {
            0, 0, 0, 0, 0, 0, 0, 0, 0, 0, 0, 0, 0, 0, 0, 0, 0, 0, 0, 0, 1, 0, 0, 0,
            0, 0, 0, 0, 0, 0, 0, 0, 0, 0, 0, 0, 0, 0, 0, 0, 0, 0, 0, 0, 0, 0, 0, 0, 0, 0, 0, 0,
            0, 0, 0, 0, 0, 0, 0, 0,
            2, 0, 0, 0, 0, 1, 0, 0, 0, 0, 0, 0, 0, 0, 0, 0};
        private static final int[] GREATEST = {
            19, 5, 9, 9, 5, 10, 0, 0, 19, 19, 0, 0, 5, 0, 0, 0, 9, 0, 0, 0, 9, 0, 0, 0,
            19, 0, 0, 0, 5, 0, 0, 0, 5, 0, 0, 0, 0, 0, 0, 0, 0, 0, 0, 0, 0, 0, 0, 0, 0, 0, 0, 0,
            5, 0, 0, 0, 0, 0, 0, 0,
            9, 0, 0, 0, 7, 9, 0, 0, 8, 1, 0, 0, 8, 9, 0, 0};

        private final int[] kind = new int[Told.MOST_BYTES + 1];
        private final int[] value = new int[Told.MOST_BYTES + 1];
        private final int[] start = new int[Told.MOST_BYTES + 1];
        private int tokens;
        int fault;
        int place;

        void read(Told told, int sort) {
            fault = 0;
            place = NONE;
            split(told, sort);
            int unfit = firstUnfit();
            if (unfit != NONE) {
                blame(1, startAt(unfit));
                return;
            }
            findWrongNumber();
            if (fault == 0 && tellsOfMissing(sort)) {
                blame(4, told.size);
            }
        }

        void fill(Told told, int sort, int number) {
            switch (sort) {
                case 0:
                    fillBook(told.bookAt(number));
                    break;
                case 1:
                    fillEvening(told.eveningAt(number));
                    break;
                case 2:
                    fillLog(told.logAt(number));
                    break;
                default:
                    fillTown(told.townAt(number));
                    break;
            }
        }

        private void blame(int number, int at) {
            fault = number;
            place = at;
        }

        private static String nameOf(int word) {
            switch (word) {
                case 0: return "line";
                case 1: return "dry";
                case 2: return "back";
                case 3: return "child";
                case 4: return "free";
                case 5: return "cut";
                case 6: return "say";
                case 7: return "out";
                case 8: return "in";
                case 9: return "dry";
                case 10: return "prompt";
                case 11: return "wait";
                case 12: return "go";
                case 13: return "heard";
                case 14: return "gap";
                case 15: return "houses";
                case 16: return "wall";
                case 17: return "book";
                default: return "loud";
            }
        }

        private static boolean isLetter(int sign) {
            return sign >= 'a' && sign <= 'z';
        }

        private static boolean isDigit(int sign) {
            return sign >= '0' && sign <= '9';
        }

        private void split(Told told, int sort) {
            tokens = 0;
            int at = 0;
            while (at < told.size) {
                int sign = told.byteAt(at);
                if (sign == 10 || sign == 32) {
                    at++;
                    continue;
                }
                int behind = endOfRow(told, at);
                addToken(told, sort, at, behind);
                if (kindAt(tokens - 1) == UNFIT) {
                    return;
                }
                at = behind;
            }
            put(END, 0, told.size);
        }

        private static int endOfRow(Told told, int at) {
            int behind = at + 1;
            if (isLetter(told.byteAt(at))) {
                while (behind < told.size && isLetter(told.byteAt(behind))) {
                    behind++;
                }
            } else if (isDigit(told.byteAt(at))) {
                while (behind < told.size && isDigit(told.byteAt(behind))) {
                    behind++;
                }
            }
            return behind;
        }

        private void addToken(Told told, int sort, int at, int behind) {
            int sign = told.byteAt(at);
            if (isLetter(sign)) {
                int word = wordOf(told, sort, at, behind);
                put(word == NONE ? UNFIT : WORD, word, at);
            } else if (isDigit(sign) && behind - at <= 2) {
                int number = sign - '0';
                if (behind - at == 2) {
                    number = number * 10 + told.byteAt(at + 1) - '0';
                }
                put(NUMBER, number, at);
            } else if (sign == ';') {
                put(SEMICOLON, 0, at);
            } else {
                put(UNFIT, 0, at);
            }
        }

        private void put(int what, int number, int at) {
            if (tokens < kind.length) {
                kind[tokens] = what;
                value[tokens] = number;
                start[tokens] = at;
                tokens++;
            }
        }

        private static int wordOf(Told told, int sort, int at, int behind) {
            if (sort < 0 || sort >= Told.SORTS) {
                return NONE;
            }
            for (int word = FIRST_WORD[sort]; word < FIRST_WORD[sort + 1]; word++) {
                if (isName(told, at, behind, nameOf(word))) {
                    return word;
                }
            }
            return NONE;
        }

        private static boolean isName(Told told, int at, int behind, String name) {
            if (name.length() != behind - at) {
                return false;
            }
            for (int i = 0; i < name.length(); i++) {
                if (told.byteAt(at + i) != name.charAt(i)) {
                    return false;
                }
            }
            return true;
        }

        private int kindAt(int token) {
            return token >= 0 && token < tokens ? kind[token] : END;
        }

        private int startAt(int token) {
            return token >= 0 && token < tokens ? start[token] : NONE;
        }

        private int valueAt(int token) {
            return token >= 0 && token < tokens ? value[token] : 0;
        }

        private static int numbersOf(int word) {
            return word >= 0 && word < NUMBERS.length ? NUMBERS[word] : 0;
        }

        /** The end's token; all ahead of it are statements, if the text is one. */
        private int lastToken() {
            return tokens - 1;
        }

        /** The token behind a statement that begins with a word. */
        private int behindStatement(int token) {
            return token + numbersOf(valueAt(token)) + 2;
        }

        /** The first token with which no text goes on, NONE if the text is one. */
        private int firstUnfit() {
            for (int token = 0; token < tokens; token = behindStatement(token)) {
                if (kindAt(token) != WORD) {
                    return kindAt(token) == END ? NONE : token;
                }
                int semicolon = behindStatement(token) - 1;
                for (int i = token + 1; i <= semicolon; i++) {
                    if (kindAt(i) != (i == semicolon ? SEMICOLON : NUMBER)) {
                        return i;
                    }
                }
            }
            return NONE;
        }

        private void findWrongNumber() {
            int lines = 0;
            int backs = 0;
            int deeds = 0;
            int voices = 0;
            for (int token = 0; token < lastToken() && fault == 0; token = behindStatement(token)) {
                int word = valueAt(token);
                lines += word == LINE ? 1 : 0;
                backs += word == BACK ? 1 : 0;
                deeds += word >= SAY && word < HEARD ? 1 : 0;
                voices += word >= HEARD && word < HOUSES ? 1 : 0;
                if (lines > Book.MOST_LINES || backs > Book.MOST_BACKS
                        || deeds > Evening.MOST_DEEDS || voices > Log.MOST_VOICES) {
                    blame(3, startAt(token));
                } else {
                    checkNumbers(token);
                }
            }
        }

        private void checkNumbers(int token) {
            int word = valueAt(token);
            for (int i = 0; i < numbersOf(word) && fault == 0; i++) {
                int number = valueAt(token + 1 + i);
                int limit = word * 4 + i;
                if (limit >= 0 && limit < LEAST.length && limit < GREATEST.length
                        && (number < LEAST[limit] || number > GREATEST[limit])) {
                    blame(2, startAt(token + 1 + i));
                }
            }
        }

        private boolean tellsOfMissing(int sort) {
            if (sort == 0) {
                return bookTellsOfMissing();
            }
            return sort == 3 && townTellsOfMissing();
        }

        private boolean bookTellsOfMissing() {
            int lines = 0;
            int told = NONE;
            for (int token = 0; token < lastToken(); token = behindStatement(token)) {
                int word = valueAt(token);
                if (word == LINE) {
                    lines++;
                    told = Math.max(told, valueAt(token + 1));
                } else if (word == BACK) {
                    told = Math.max(told, Math.max(valueAt(token + 1), valueAt(token + 2)));
                }
            }
            return told >= lines;
        }

        private boolean townTellsOfMissing() {
            int houses = Town.HOUSES_AT_FIRST;
            int told = NONE;
            for (int token = 0; token < lastToken(); token = behindStatement(token)) {
                int word = valueAt(token);
                if (word == HOUSES) {
                    houses = valueAt(token + 1);
                } else {
                    // A wall stands between its house and the one behind that: both must be there.
                    told = Math.max(told, valueAt(token + 1) + (word == WALL ? 1 : 0));
                }
            }
            return told >= houses;
        }

        private void fillBook(Book b) {
            if (b == null) {
                return;
            }
            b.clear();
            for (int token = 0; token < lastToken(); token = behindStatement(token)) {
                tellBook(b, token);
            }
            b.settle();
        }

        private void tellBook(Book b, int token) {
            int one = valueAt(token + 1);
            int two = valueAt(token + 2);
            switch (valueAt(token)) {
                case LINE:
                    b.addLine(one, two, valueAt(token + 3), valueAt(token + 4));
                    break;
                case BOOK_DRY:
                    b.setDry(one, two);
                    break;
                case BACK:
                    b.addBack(one, two);
                    break;
                case CHILD:
                    b.setChild(one);
                    break;
                case FREE:
                    b.free = one;
                    break;
                case CUT:
                    b.cut = one;
                    break;
                default:
                    break;
            }
        }

        private void fillEvening(Evening e) {
            if (e == null) {
                return;
            }
            e.deeds = 0;
            for (int token = 0; token < lastToken(); token = behindStatement(token)) {
                int word = valueAt(token);
                e.add(word - SAY, numbersOf(word) == 0 ? NONE : valueAt(token + 1));
            }
        }

        private void fillLog(Log g) {
            if (g == null) {
                return;
            }
            g.voices = 0;
            for (int token = 0; token < lastToken(); token = behindStatement(token)) {
                g.add(valueAt(token) == HEARD ? valueAt(token + 1) : Log.SOMEBODY);
            }
        }

        private void fillTown(Town t) {
            if (t == null) {
                return;
            }
            t.clear();
            for (int token = 0; token < lastToken(); token = behindStatement(token)) {
                tellTown(t, token);
            }
        }

        private void tellTown(Town t, int token) {
            int house = valueAt(token + 1);
            int number = valueAt(token + 2);
            switch (valueAt(token)) {
                case HOUSES:
                    t.houses = house;
                    break;
                case WALL:
                    t.setWall(house, number);
                    break;
                case HOUSE_BOOK:
                    t.setBook(house, number);
                    break;
                case LOUD:
                    t.setLoud(house, number);
                    break;
                default:
                    break;
            }
        }
    }

    /** A book; its followers and the harm it does are worked out once, when all of it is told. */
    private static final class Book {
        static final int MOST_LINES = 20;
        static final int MOST_BACKS = 8;

        private final int[] cue = new int[MOST_LINES];
        private final int[] who = new int[MOST_LINES];
        private final int[] scene = new int[MOST_LINES];
        private final int[] harm = new int[MOST_LINES];
        private final int[] harmDone = new int[MOST_LINES];
        private final int[] backFrom = new int[MOST_BACKS];
        private final int[] backTo = new int[MOST_BACKS];
        private final int[] dries = new int[PEOPLE];
        private final int[] child = new int[PEOPLE];
        private final int[] followers = new int[MOST_LINES * MOST_LINES];
        private final int[] followerCounts = new int[MOST_LINES];
        private int backs;
        int lines;
        int free;
        int cut;

        void clear() {
            lines = 0;
            backs = 0;
            free = 3;
            cut = 3;
            for (int p = 0; p < PEOPLE; p++) {
                dries[p] = 2;
                child[p] = 0;
            }
        }

        void addLine(int cueOfIt, int whoSays, int sceneOfIt, int harmOfIt) {
            if (lines < MOST_LINES) {
                cue[lines] = cueOfIt;
                who[lines] = whoSays;
                scene[lines] = sceneOfIt;
                harm[lines] = harmOfIt;
                lines++;
            }
        }

        void addBack(int from, int to) {
            if (backs < MOST_BACKS) {
                backFrom[backs] = from;
                backTo[backs] = to;
                backs++;
            }
        }

        void setDry(int person, int tenths) {
            if (isPerson(person)) {
                dries[person] = tenths;
            }
        }

        void setChild(int person) {
            if (isPerson(person)) {
                child[person] = 1;
            }
        }

        void settle() {
            for (int l = 0; l < lines && l < MOST_LINES; l++) {
                followerCounts[l] = 0;
                harmDone[l] = isChild(who[l]) ? 0 : harm[l];
            }
            for (int l = 1; l < lines && l < MOST_LINES; l++) {
                addFollower(cue[l], l);
            }
            for (int i = 0; i < backs && i < MOST_BACKS; i++) {
                addFollower(backFrom[i], backTo[i]);
            }
        }

        private void addFollower(int line, int further) {
            if (!has(line) || !has(further) || follows(line, further)) {
                return;
            }
            int place = followerCounts[line];
            if (place >= 0 && place < MOST_LINES) {
                followers[line * MOST_LINES + place] = further;
                followerCounts[line] = place + 1;
            }
        }

        void copy(Book from) {
            System.arraycopy(from.cue, 0, cue, 0, MOST_LINES);
            System.arraycopy(from.who, 0, who, 0, MOST_LINES);
            System.arraycopy(from.scene, 0, scene, 0, MOST_LINES);
            System.arraycopy(from.harm, 0, harm, 0, MOST_LINES);
            System.arraycopy(from.harmDone, 0, harmDone, 0, MOST_LINES);
            System.arraycopy(from.backFrom, 0, backFrom, 0, MOST_BACKS);
            System.arraycopy(from.backTo, 0, backTo, 0, MOST_BACKS);
            System.arraycopy(from.dries, 0, dries, 0, PEOPLE);
            System.arraycopy(from.child, 0, child, 0, PEOPLE);
            System.arraycopy(from.followers, 0, followers, 0, MOST_LINES * MOST_LINES);
            System.arraycopy(from.followerCounts, 0, followerCounts, 0, MOST_LINES);
            lines = from.lines;
            backs = from.backs;
            free = from.free;
            cut = from.cut;
        }

        boolean has(int line) {
            return line >= 0 && line < lines && line < MOST_LINES;
        }

        int howManyFollow(int line) {
            return line >= 0 && line < lines && line < MOST_LINES ? followerCounts[line] : 0;
        }

        int following(int line, int k) {
            if (line < 0 || line >= lines || line >= MOST_LINES) {
                return NONE;
            }
            return k >= 0 && k < followerCounts[line] && k < MOST_LINES ? followers[line * MOST_LINES + k] : NONE;
        }

        int nextOf(int line) {
            return following(line, 0);
        }

        boolean follows(int line, int further) {
            for (int k = 0; k < howManyFollow(line); k++) {
                if (following(line, k) == further) {
                    return true;
                }
            }
            return false;
        }

        /** 1 for a step that is a straying, else 0. */
        int strayingOf(int line, int further) {
            return nextOf(line) == further ? 0 : 1;
        }

        int whoSays(int line) {
            return line >= 0 && line < lines && line < MOST_LINES ? who[line] : NONE;
        }

        int sceneOf(int line) {
            return has(line) ? scene[line] : NONE;
        }

        /** The harm that it does, which is none if a child says it. */
        int harmDone(int line) {
            return line >= 0 && line < lines && line < MOST_LINES ? harmDone[line] : 0;
        }

        boolean isChild(int person) {
            return person >= 0 && person < PEOPLE && child[person] == 1;
        }

        int driesOf(int person) {
            return isPerson(person) ? dries[person] : 0;
        }

        int show(int what) {
            if (what >= 100) {
                return showLine(what / 100, what % 100);
            }
            if (what >= 10 && what < 10 + PEOPLE) {
                return driesOf(what - 10);
            }
            if (what >= 20 && what < 20 + PEOPLE) {
                return isChild(what - 20) ? 1 : 0;
            }
            switch (what) {
                case 0:
                    return lines;
                case 1:
                    return free;
                case 2:
                    return cut;
                default:
                    return NO_SUCH;
            }
        }

        private int showLine(int hundreds, int line) {
            if (!has(line)) {
                return NO_SUCH;
            }
            switch (hundreds) {
                case 1:
                    return cue[line];
                case 2:
                    return who[line];
                case 3:
                    return scene[line];
                case 4:
                    return harm[line];
                case 5:
                    return nextOf(line);
                case 6:
                    return howManyFollow(line);
                default:
                    return NO_SUCH;
            }
        }

        /** The first line that follows, if one line follows none. */
        private int nextWithout(int line, int without) {
            int next = nextOf(line);
            return next != NONE && next == without ? following(line, 1) : next;
        }

        int lengthWithout(int without) {
            int seen = 0;
            int line = has(0) ? 0 : NONE;
            int length = 0;
            while (length < MOST_LINES && has(line) && (seen >> line & 1) == 0) {
                seen |= 1 << line;
                length++;
                line = nextWithout(line, without);
            }
            return length;
        }

        int lengthOfLoop() {
            int line = has(0) ? 0 : NONE;
            for (int i = 0; i < MOST_LINES; i++) {
                line = nextOf(line);
            }
            if (!has(line)) {
                return 0;
            }
            // So many lines on, the line is one that comes again and again.
            int again = nextOf(line);
            int length = 1;
            while (again != line && length < MOST_LINES) {
                again = nextOf(again);
                length++;
            }
            return length;
        }

        int shortestWithout() {
            int best = NONE;
            int least = FAR;
            for (int l = 1; l < lines; l++) {
                int length = lengthWithout(l);
                if (length < least) {
                    least = length;
                    best = l;
                }
            }
            return best;
        }
    }

    private static final class Evening {
        static final int MOST_DEEDS = 40;

        private final int[] deed = new int[MOST_DEEDS];
        private final int[] number = new int[MOST_DEEDS];
        int deeds;

        void add(int what, int numberOfIt) {
            if (deeds < MOST_DEEDS) {
                deed[deeds] = what;
                number[deeds] = numberOfIt;
                deeds++;
            }
        }

        void copy(Evening from) {
            System.arraycopy(from.deed, 0, deed, 0, MOST_DEEDS);
            System.arraycopy(from.number, 0, number, 0, MOST_DEEDS);
            deeds = from.deeds;
        }

        private boolean has(int k) {
            return k >= 0 && k < deeds && k < MOST_DEEDS;
        }

        int deedAt(int k) {
            return has(k) ? deed[k] : NO_SUCH;
        }

        int numberAt(int k) {
            return has(k) ? number[k] : NO_SUCH;
        }

        int show(int k, int what) {
            if (k == NONE) {
                return what == 0 ? deeds : NO_SUCH;
            }
            if (what == 0) {
                return deedAt(k);
            }
            return what == 1 ? numberAt(k) : NO_SUCH;
        }
    }

    private static final class Log {
        static final int MOST_VOICES = 12;
        static final int SOMEBODY = 6;

        private final int[] heard = new int[MOST_VOICES];
        int voices;

        void add(int who) {
            if (voices < MOST_VOICES) {
                heard[voices] = who;
                voices++;
            }
        }

        void copy(Log from) {
            System.arraycopy(from.heard, 0, heard, 0, MOST_VOICES);
            voices = from.voices;
        }

        boolean has(int k) {
            return k >= 0 && k < voices && k < MOST_VOICES;
        }

        boolean isGap(int k) {
            return has(k) && heard[k] == SOMEBODY;
        }

        boolean mayBe(int k, int who) {
            return has(k) && (heard[k] == SOMEBODY || heard[k] == who);
        }

        int show(int k) {
            if (k == NONE) {
                return voices;
            }
            return has(k) ? heard[k] : NONE;
        }
    }

    private static final class Town {
        static final int MOST_HOUSES = 9;
        static final int HOUSES_AT_FIRST = 4;

        private final int[] walls = new int[MOST_HOUSES];
        private final int[] books = new int[MOST_HOUSES];
        private final int[] louds = new int[MOST_HOUSES];
        private final int[] heard = new int[MOST_HOUSES];
        int houses;

        void clear() {
            houses = HOUSES_AT_FIRST;
            for (int h = 0; h < MOST_HOUSES; h++) {
                walls[h] = 2;
                books[h] = 0;
                louds[h] = 3;
            }
        }

        void setWall(int house, int number) {
            if (house >= 0 && house < MOST_HOUSES) {
                walls[house] = number;
            }
        }

        void setBook(int house, int number) {
            if (house >= 0 && house < MOST_HOUSES) {
                books[house] = number;
            }
        }

        void setLoud(int house, int number) {
            if (house >= 0 && house < MOST_HOUSES) {
                louds[house] = number;
            }
        }

        void copy(Town from) {
            System.arraycopy(from.walls, 0, walls, 0, MOST_HOUSES);
            System.arraycopy(from.books, 0, books, 0, MOST_HOUSES);
            System.arraycopy(from.louds, 0, louds, 0, MOST_HOUSES);
            houses = from.houses;
        }

        private boolean has(int house) {
            return house >= 0 && house < houses && house < MOST_HOUSES;
        }

        int show(int what) {
            switch (what) {
                case 0:
                    return houses;
                case 1:
                    return bestToListen();
                case 2:
                    return othersHeardIn(bestToListen());
                case 3:
                    return fewestGuards();
                case 4:
                    return wrongCouples();
                case 5:
                    return hushing();
                default:
                    return what >= 10 && what < 50 ? showHouse(what / 10, what % 10) : NONE;
            }
        }

        private int showHouse(int tens, int house) {
            if (!has(house)) {
                return NONE;
            }
            switch (tens) {
                case 1:
                    return has(house + 1) ? walls[house] : NONE;
                case 2:
                    return books[house];
                case 3:
                    return louds[house];
                default:
                    return whereHeard(house);
            }
        }

        private int loudOf(int house) {
            return has(house) ? louds[house] : 0;
        }

        private int whereHeard(int house) {
            int bits = 0;
            for (int other = 0; other < houses; other++) {
                if (wallsBetween(Math.min(house, other), Math.max(house, other)) < loudOf(house)) {
                    bits |= 1 << other;
                }
            }
            return bits;
        }

        private int wallsBetween(int from, int to) {
            int sum = 0;
            for (int h = from; h < to; h++) {
                sum += has(h) ? walls[h] : 0;
            }
            return sum;
        }

        private int othersHeardIn(int house) {
            int others = 0;
            for (int h = 0; h < houses; h++) {
                if (h != house && (whereHeard(h) >> house & 1) == 1) {
                    others++;
                }
            }
            return others;
        }

        private int bestToListen() {
            int best = 0;
            int most = othersHeardIn(0);
            for (int h = 1; h < houses; h++) {
                int others = othersHeardIn(h);
                if (others > most) {
                    most = others;
                    best = h;
                }
            }
            return best;
        }

        private int fewestGuards() {
            for (int h = 0; h < houses && h < MOST_HOUSES; h++) {
                heard[h] = whereHeard(h);
            }
            int all = (1 << houses) - 1;
            int best = all;
            for (int guards = 0; guards < all; guards++) {
                if (Integer.bitCount(guards) < Integer.bitCount(best) && allHeardBy(guards)) {
                    best = guards;
                }
            }
            return best;
        }

        private boolean allHeardBy(int guards) {
            for (int h = 0; h < houses && h < MOST_HOUSES; h++) {
                boolean among = (guards >> h & 1) == 1;
                if (!among && louds[h] != 0 && (heard[h] & guards) == 0) {
                    return false;
                }
            }
            return true;
        }

        private int wrongCouples() {
            int couples = 0;
            for (int h = 0; h + 1 < houses && h + 1 < MOST_HOUSES; h++) {
                boolean each = walls[h] < louds[h] && walls[h] < louds[h + 1];
                if (books[h] != books[h + 1] && each) {
                    couples++;
                }
            }
            return couples;
        }

        /** Who is not heard next door is heard nowhere else: walls only add up. */
        private int hushing() {
            int most = 0;
            for (int h = 0; h + 1 < houses && h + 1 < MOST_HOUSES; h++) {
                most = Math.max(most, Math.max(louds[h], louds[h + 1]) - walls[h]);
            }
            return most;
        }
    }

    /** An evening as it goes on, deed by deed. */
    private static final class Stage {
        private static final int SAY = 0;
        private static final int OUT = 1;
        private static final int IN = 2;
        private static final int DRY = 3;
        private static final int PROMPT = 4;
        private static final int WAIT = 5;
        private static final int GO = 6;

        private final int[] said = new int[PEOPLE];
        private final int[] dried = new int[PEOPLE];
        private int minute;
        private int last;
        private int silence;
        private int harmDone;
        private int strayings;
        private int prompted;
        private int cuts;
        private int room;
        private int seed;

        private void begin() {
            minute = 0;
            last = NONE;
            silence = 0;
            harmDone = 0;
            strayings = 0;
            prompted = 0;
            cuts = 0;
            room = (1 << PEOPLE) - 1;
            for (int p = 0; p < PEOPLE; p++) {
                said[p] = 0;
                dried[p] = 0;
            }
        }

        /** Plays the first n deeds, or as many as can be: how many. */
        int play(Book b, Evening e, int n) {
            begin();
            for (int k = 0; k < n && k < Evening.MOST_DEEDS; k++) {
                if (!perform(b, e.deedAt(k), e.numberAt(k))) {
                    return k;
                }
            }
            return n;
        }

        int longestSilence(Book b, Evening e) {
            begin();
            int longest = 0;
            for (int k = 0; k < e.deeds; k++) {
                if (!perform(b, e.deedAt(k), e.numberAt(k))) {
                    return longest;
                }
                longest = Math.max(longest, silence);
            }
            return longest;
        }

        int loudest(Book b, Evening e) {
            play(b, e, e.deeds);
            int best = NONE;
            int most = 0;
            for (int p = 0; p < PEOPLE; p++) {
                if (said[p] > most) {
                    most = said[p];
                    best = p;
                }
            }
            return best;
        }

        int firstFined(Book b, Evening e) {
            begin();
            for (int k = 0; k < e.deeds; k++) {
                if (!perform(b, e.deedAt(k), e.numberAt(k))) {
                    return NONE;
                }
                if (fines(b) > 0) {
                    return k + 1;
                }
            }
            return NONE;
        }

        void playDrawn(Book b, int seedAtFirst, int n) {
            begin();
            seed = seedAtFirst;
            for (int i = 0; i < n; i++) {
                drawDeed(b);
            }
        }

        private void drawDeed(Book b) {
            int number = draw(8);
            int person = number == 7 ? draw(PEOPLE) : NONE;
            switch (number) {
                case 3:
                    perform(b, SAY, drawFollower(b));
                    break;
                case 4:
                    perform(b, DRY, NONE);
                    break;
                case 5:
                    perform(b, PROMPT, NONE);
                    break;
                case 6:
                    perform(b, GO, NONE);
                    break;
                case 7:
                    perform(b, isIn(person) ? OUT : IN, person);
                    break;
                default:
                    perform(b, SAY, due(b));
                    break;
            }
        }

        /** NONE, which nobody can say, and no further number drawn, if the last line has no followers. */
        private int drawFollower(Book b) {
            int places = b.howManyFollow(last);
            return places > 0 ? b.following(last, draw(places)) : NONE;
        }

        private int draw(int below) {
            seed = seed * 1103515245 + 12345;
            return below > 0 ? (seed >>> 16) % below : 0;
        }

        private int due(Book b) {
            if (last == NONE) {
                return b.has(0) ? 0 : NONE;
            }
            return b.following(last, 0);
        }

        private boolean isIn(int person) {
            return isPerson(person) && (room >> person & 1) == 1;
        }

        private int fines(Book b) {
            return Math.max(0, strayings - b.free);
        }

        /** Does a deed, if it can be: whether it could. */
        private boolean perform(Book b, int deed, int number) {
            boolean can;
            switch (deed) {
                case SAY:
                    can = sayLine(b, number);
                    break;
                case OUT:
                    return move(number, true);
                case IN:
                    return move(number, false);
                case DRY:
                    can = dryUp(b);
                    break;
                case PROMPT:
                    can = promptDue(b);
                    break;
                case WAIT:
                    silence++;
                    can = true;
                    break;
                case GO:
                    can = cutDue(b);
                    break;
                default:
                    return false;
            }
            if (can) {
                minute++;
            }
            return can;
        }

        private boolean move(int person, boolean out) {
            if (!isPerson(person) || isIn(person) != out) {
                return false;
            }
            room ^= 1 << person;
            return true;
        }

        private boolean sayLine(Book b, int line) {
            boolean isDue = line != NONE && line == due(b);
            if (!isDue && !b.follows(last, line) || !isIn(b.whoSays(line))) {
                return false;
            }
            if (!isDue) {
                strayings++;
            }
            speak(b, line);
            return true;
        }

        private void speak(Book b, int line) {
            int person = b.whoSays(line);
            if (isPerson(person)) {
                said[person]++;
            }
            harmDone += b.harmDone(line);
            last = line;
            silence = 0;
        }

        private boolean dryUp(Book b) {
            int person = b.whoSays(due(b));
            if (!isPerson(person) || !isIn(person)) {
                return false;
            }
            dried[person]++;
            silence++;
            return true;
        }

        private boolean promptDue(Book b) {
            int line = due(b);
            if (silence == 0 || !isIn(b.whoSays(line))) {
                return false;
            }
            prompted++;
            speak(b, line);
            return true;
        }

        private boolean cutDue(Book b) {
            int line = due(b);
            if (line == NONE || silence < b.cut && isIn(b.whoSays(line))) {
                return false;
            }
            cuts++;
            last = line;
            silence = 0;
            return true;
        }

        int show(Book b, int what) {
            if (what >= 10 && what < 10 + PEOPLE) {
                return said[what - 10];
            }
            if (what >= 20 && what < 20 + PEOPLE) {
                return dried[what - 20];
            }
            switch (what) {
                case 0:
                    return minute;
                case 1:
                    return last;
                case 2:
                    return due(b);
                case 3:
                    return silence;
                case 4:
                    return harmDone;
                case 5:
                    return strayings;
                case 6:
                    return fines(b);
                case 7:
                    return prompted;
                case 8:
                    return cuts;
                case 9:
                    return room;
                default:
                    return NO_SUCH;
            }
        }
    }

    /** What can come of a book by its followers, everybody being in the room. */
    private static final class Paths {
        private static final int L = Book.MOST_LINES;
        private static final int STRAYINGS = 10;

        /** By how many lines are left and which is the first of them: the fewest strayings. */
        private final int[] fewest = new int[(L + 1) * L];
        private final int[] here = new int[L * STRAYINGS];
        private final int[] ahead = new int[L * STRAYINGS];
        private final long[] many = new long[L];
        private final long[] manyAhead = new long[L];
        private final int[] reached = new int[4];
        private final int[] further = new int[4];

        int fewestWithout(Book b, int scene, int n) {
            if (!b.has(0) || n < 1 || n > L) {
                return NONE;
            }
            for (int left = 1; left <= n; left++) {
                for (int l = 0; l < b.lines && l < L; l++) {
                    fewest[left * L + l] = b.sceneOf(l) == scene ? FAR : fewestFrom(b, left, l);
                }
            }
            return fewest[n * L] >= FAR ? NONE : fewest[n * L];
        }

        private int fewestFrom(Book b, int left, int line) {
            if (left <= 1 || b.howManyFollow(line) == 0) {
                return 0;
            }
            int least = FAR;
            for (int k = 0; k < b.howManyFollow(line); k++) {
                int next = b.following(line, k);
                least = Math.min(least, fewestAt(left - 1, next) + b.strayingOf(line, next));
            }
            return least;
        }

        private int fewestAt(int left, int line) {
            return left >= 0 && left <= L && line >= 0 && line < L ? fewest[left * L + line] : FAR;
        }

        /** The k-th line of the first way of those that fewestWithout() has just found. */
        int lineWithout(Book b, int n, int k) {
            if (k < 0 || k >= n) {
                return NONE;
            }
            int line = 0;
            for (int i = 0; i < k; i++) {
                int next = NONE;
                for (int j = 0; j < b.howManyFollow(line); j++) {
                    int other = b.following(line, j);
                    int strayings = fewestAt(n - i - 1, other) + b.strayingOf(line, other);
                    if (strayings == fewestAt(n - i, line) && (next == NONE || other < next)) {
                        next = other;
                    }
                }
                if (next == NONE) {
                    return NONE;
                }
                line = next;
            }
            return line;
        }

        int linesUpTo(Book b, int scene, int k) {
            for (int l = 0; l < L; l++) {
                here[l] = l == 0 && b.has(0) ? 0 : FAR;
            }
            // A way that comes to a line twice is never the soonest: so many lines are enough.
            for (int length = 1; length <= L; length++) {
                for (int l = 0; l < b.lines && l < L; l++) {
                    if (here[l] <= k && b.sceneOf(l) == scene) {
                        return length;
                    }
                }
                stepStrayings(b);
            }
            return NONE;
        }

        private void stepStrayings(Book b) {
            for (int l = 0; l < L; l++) {
                ahead[l] = FAR;
            }
            for (int l = 0; l < b.lines && l < L; l++) {
                for (int k = 0; k < b.howManyFollow(l); k++) {
                    int next = b.following(l, k);
                    if (b.has(next)) {
                        ahead[next] = Math.min(ahead[next], here[l] + b.strayingOf(l, next));
                    }
                }
            }
            System.arraycopy(ahead, 0, here, 0, L);
        }

        int linesUntilBoth(Book b, int one, int other) {
            for (int said = 0; said < 4; said++) {
                reached[said] = 0;
            }
            if (b.has(0)) {
                reached[saidBy(b, 0, one, other)] = 1;
            }
            for (int length = 1; length <= 4 * L; length++) {
                if (reached[3] != 0) {
                    return length;
                }
                stepTogether(b, one, other);
            }
            return NONE;
        }

        /** Bit 0 if the one says it, bit 1 if the other does. */
        private static int saidBy(Book b, int line, int one, int other) {
            int who = b.whoSays(line);
            return (who == one ? 1 : 0) | (who == other ? 2 : 0);
        }

        private void stepTogether(Book b, int one, int other) {
            for (int said = 0; said < 4; said++) {
                further[said] = 0;
            }
            for (int said = 0; said < 4; said++) {
                for (int l = 0; l < b.lines; l++) {
                    if ((reached[said] >> l & 1) == 0) {
                        continue;
                    }
                    for (int k = 0; k < b.howManyFollow(l); k++) {
                        int next = b.following(l, k);
                        if (b.has(next)) {
                            further[said | saidBy(b, next, one, other)] |= 1 << next;
                        }
                    }
                }
            }
            System.arraycopy(further, 0, reached, 0, 4);
        }

        long howManyWays(Book b, int n) {
            if (!b.has(0)) {
                return 0;
            }
            for (int l = 0; l < L; l++) {
                many[l] = 1;
            }
            for (int left = 2; left <= n; left++) {
                for (int l = 0; l < b.lines && l < L; l++) {
                    manyAhead[l] = b.howManyFollow(l) == 0 ? 1 : sumOfFollowers(b, l);
                }
                System.arraycopy(manyAhead, 0, many, 0, L);
            }
            return many[0];
        }

        private long sumOfFollowers(Book b, int line) {
            long sum = 0;
            for (int k = 0; k < b.howManyFollow(line); k++) {
                int next = b.following(line, k);
                sum += b.has(next) ? many[next] : 0;
            }
            return sum;
        }

        int harmOfWay(Book b, int n, int k, boolean mild) {
            for (int i = 0; i < L * STRAYINGS; i++) {
                here[i] = b.harmDone(i / STRAYINGS);
            }
            for (int left = 2; left <= n; left++) {
                for (int i = 0; i < b.lines * STRAYINGS && i < L * STRAYINGS; i++) {
                    int line = i / STRAYINGS;
                    ahead[i] = b.harmDone(line) + harmBehind(b, line, i % STRAYINGS, mild);
                }
                System.arraycopy(ahead, 0, here, 0, L * STRAYINGS);
            }
            return k >= 0 && k < STRAYINGS ? here[k] : NONE;
        }

        private int harmBehind(Book b, int line, int strayings, boolean mild) {
            int best = NONE;
            for (int j = 0; j < b.howManyFollow(line); j++) {
                int next = b.following(line, j);
                int left = strayings - b.strayingOf(line, next);
                if (left < 0 || left >= STRAYINGS || !b.has(next)) {
                    continue;
                }
                int harm = here[next * STRAYINGS + left];
                if (best == NONE || (mild ? harm < best : harm > best)) {
                    best = harm;
                }
            }
            return best == NONE ? 0 : best;
        }

        /** The lines (bits) that can be said if these people are out and one line can't be said. */
        private int canBeSaid(Book b, int out, int without) {
            int said = mayBeSaid(b, 0, out, without) ? 1 : 0;
            int looked = 0;
            for (int round = 0; round < b.lines && looked != said; round++) {
                int fresh = said & ~looked;
                looked = said;
                for (int l = 0; l < b.lines; l++) {
                    for (int k = 0; (fresh >> l & 1) == 1 && k < b.howManyFollow(l); k++) {
                        int next = b.following(l, k);
                        said |= mayBeSaid(b, next, out, without) ? 1 << next : 0;
                    }
                }
            }
            return said;
        }

        private static boolean mayBeSaid(Book b, int line, int out, int without) {
            return b.has(line) && line != without && (out >> b.whoSays(line) & 1) == 0;
        }

        private static int linesOf(Book b, int scene) {
            int bits = 0;
            for (int l = 0; l < b.lines; l++) {
                bits |= b.sceneOf(l) == scene ? 1 << l : 0;
            }
            return bits;
        }

        int fewestOut(Book b, int scene) {
            int wanted = linesOf(b, scene);
            int best = (1 << PEOPLE) - 1;
            for (int out = 0; out < 1 << PEOPLE; out++) {
                if (Integer.bitCount(out) < Integer.bitCount(best) && (canBeSaid(b, out, NONE) & wanted) == 0) {
                    best = out;
                }
            }
            return best;
        }

        int neededFor(Book b, int scene) {
            int wanted = linesOf(b, scene);
            if ((canBeSaid(b, 0, NONE) & wanted) == 0) {
                return NONE;
            }
            int needed = 0;
            for (int l = 0; l < b.lines; l++) {
                if (b.sceneOf(l) != scene && (canBeSaid(b, 0, l) & wanted) == 0) {
                    needed |= 1 << l;
                }
            }
            return needed;
        }

        int linesForSure(Book b, int scene, int people) {
            if (!b.has(0)) {
                return NONE;
            }
            for (int l = 0; l < L; l++) {
                here[l] = FAR;
            }
            // Each round finds the lines from which it is one line further at most.
            for (int round = 0; round < L; round++) {
                for (int l = 0; l < b.lines && l < L; l++) {
                    ahead[l] = b.sceneOf(l) == scene ? 1 : Math.min(FAR, 1 + sureBehind(b, l, people));
                }
                System.arraycopy(ahead, 0, here, 0, L);
            }
            return here[0] >= FAR ? NONE : here[0];
        }

        private int sureBehind(Book b, int line, int people) {
            boolean theyChoose = (people >> b.whoSays(line) & 1) == 1;
            int best = NONE;
            for (int k = 0; k < b.howManyFollow(line); k++) {
                int next = b.following(line, k);
                int lines = b.has(next) ? here[next] : FAR;
                if (best == NONE || (theyChoose ? lines < best : lines > best)) {
                    best = lines;
                }
            }
            return best == NONE ? FAR : best;
        }
    }

    /** Fractions: how likely, how much harm, how often dried. */
    private static final class Odds {
        static final int MOST_LINES = 9;

        private final long[] weight = new long[Book.MOST_LINES];
        private final long[] weightAhead = new long[Book.MOST_LINES];
        long above;
        long below = 1;

        /** How likely a line of a scene comes among the first n, or, scene NONE, the harm in the mean. */
        void gather(Book b, int scene, int n, boolean prompter) {
            for (int l = 0; l < Book.MOST_LINES; l++) {
                weight[l] = 0;
            }
            if (b.has(0)) {
                weight[0] = 10 - tenths(b, 0, prompter);
            }
            // All weights are told of 10 to the power of how many lines there were, so no fraction is needed.
            long sum = 0;
            long whole = 1;
            for (int i = 0; i < n; i++) {
                sum = sum * 10 + (scene == NONE ? takeHarm(b) : takeScene(b, scene));
                whole *= 10;
                step(b, prompter);
            }
            reduce(sum, whole);
        }

        private static int tenths(Book b, int line, boolean prompter) {
            return prompter ? 0 : b.driesOf(b.whoSays(line));
        }

        private long takeHarm(Book b) {
            long sum = 0;
            for (int l = 0; l < b.lines && l < Book.MOST_LINES; l++) {
                sum += weight[l] * b.harmDone(l);
            }
            return sum;
        }

        /** What has come to the scene is counted once, and goes no further. */
        private long takeScene(Book b, int scene) {
            long sum = 0;
            for (int l = 0; l < b.lines && l < Book.MOST_LINES; l++) {
                if (b.sceneOf(l) == scene) {
                    sum += weight[l];
                    weight[l] = 0;
                }
            }
            return sum;
        }

        private void step(Book b, boolean prompter) {
            for (int l = 0; l < Book.MOST_LINES; l++) {
                weightAhead[l] = 0;
            }
            for (int l = 0; l < b.lines && l < Book.MOST_LINES; l++) {
                int next = b.nextOf(l);
                int second = b.following(l, 1);
                int dries = tenths(b, next, prompter);
                if (b.has(next)) {
                    weightAhead[next] += weight[l] * (10 - dries);
                }
                if (b.has(second)) {
                    weightAhead[second] += weight[l] * dries;
                }
            }
            System.arraycopy(weightAhead, 0, weight, 0, Book.MOST_LINES);
        }

        void driesByNext(Book b, int n) {
            long sum = 0;
            int line = b.has(0) ? 0 : NONE;
            for (int i = 0; i < n && line != NONE; i++) {
                sum += b.driesOf(b.whoSays(line));
                line = b.nextOf(line);
            }
            reduce(sum, 10);
        }

        private void reduce(long number, long of) {
            long a = of;
            long c = number;
            for (int i = 0; i < 100 && c != 0; i++) {
                long rest = a % c;
                a = c;
                c = rest;
            }
            if (a > 0) {
                above = number / a;
                below = of / a;
            }
        }
    }

    /** Two books side by side, by who says their lines by next. */
    private static final class Merger {
        static final int MOST_LINES = 12;
        private static final int PARTED_LINES = 20;
        private static final int WIDTH = MOST_LINES + 1;

        private final int[] one = new int[MOST_LINES];
        private final int[] other = new int[MOST_LINES];
        /** By how many of each row are behind: how long the shortest row is that has the rest of both. */
        private final int[] shortest = new int[WIDTH * WIDTH];
        private final int[] row = new int[2 * MOST_LINES];
        private int ones;
        private int others;
        int length;

        void merge(Book b, Book c, int n) {
            ones = fillByNext(b, one, n);
            others = fillByNext(c, other, n);
            for (int i = ones; i >= 0; i--) {
                for (int j = others; j >= 0; j--) {
                    shortest[i * WIDTH + j] = shortestFrom(i, j);
                }
            }
            fillRow();
        }

        private static int fillByNext(Book b, int[] people, int n) {
            int filled = 0;
            int line = b.has(0) ? 0 : NONE;
            while (filled < n && filled < people.length && line != NONE) {
                people[filled] = b.whoSays(line);
                filled++;
                line = b.nextOf(line);
            }
            return filled;
        }

        private int shortestAt(int i, int j) {
            return i >= 0 && i <= ones && j >= 0 && j <= others ? shortest[i * WIDTH + j] : FAR;
        }

        private boolean isShared(int i, int j) {
            return i < ones && j < others && one[i] == other[j];
        }

        private int shortestFrom(int i, int j) {
            if (i >= ones) {
                return others - j;
            }
            if (j >= others) {
                return ones - i;
            }
            if (isShared(i, j)) {
                return 1 + shortestAt(i + 1, j + 1);
            }
            return 1 + Math.min(shortestAt(i + 1, j), shortestAt(i, j + 1));
        }

        private void fillRow() {
            int i = 0;
            int j = 0;
            length = 0;
            while (length < row.length && (i < ones || j < others)) {
                boolean shared = isShared(i, j);
                boolean fromOne = shared || takesOne(i, j);
                row[length] = fromOne && i < ones ? one[i] : j < others ? other[j] : NONE;
                length++;
                i += fromOne ? 1 : 0;
                j += shared || !fromOne ? 1 : 0;
            }
        }

        /** Whether the next of the one row, not of the other, comes first in the first shortest row. */
        private boolean takesOne(int i, int j) {
            if (i >= ones || j >= others) {
                return i < ones;
            }
            int byOne = shortestAt(i + 1, j);
            int byOther = shortestAt(i, j + 1);
            return byOne < byOther || byOne == byOther && one[i] < other[j];
        }

        int common() {
            return ones + others - length;
        }

        int person(int k) {
            return k >= 0 && k < length && k < row.length ? row[k] : NONE;
        }

        int firstUnlike(Book b, Book c) {
            int line = b.has(0) ? 0 : NONE;
            int beside = c.has(0) ? 0 : NONE;
            for (int k = 0; k < PARTED_LINES; k++) {
                if (b.whoSays(line) != c.whoSays(beside)) {
                    return k;
                }
                line = b.nextOf(line);
                beside = c.nextOf(beside);
            }
            return NONE;
        }
    }

    /** The ways of a book that fit a log. */
    private static final class Fitting {
        private static final int L = Book.MOST_LINES;
        private static final int SIZE = Log.MOST_VOICES * L;

        /** By voice and line: how many ways fit from this line on; up to it; their fewest strayings from it on. */
        private final long[] from = new long[SIZE];
        private final long[] upTo = new long[SIZE];
        private final int[] fewest = new int[SIZE];

        long show(Book b, Log g, int what) {
            countFrom(b, g);
            // Without voices there is one way that fits, the row without lines, and it has no strayings.
            long all = g.voices == 0 ? 1 : at(from, 0, 0);
            switch (what) {
                case 0:
                    return all;
                case 1:
                    return all == 0 ? NONE : g.voices == 0 ? 0 : fewest[0];
                case 2:
                    return all == 0 ? NONE : bestGuess(b, g);
                default:
                    break;
            }
            boolean first = what >= 10 && g.has(what - 10);
            boolean sure = what >= 30 && g.has(what - 30);
            if (!first && !sure) {
                return NO_SUCH;
            }
            if (all == 0) {
                return NONE;
            }
            return first ? firstWayAt(b, what - 10) : sureAt(b, g, what - 30);
        }

        private static long at(long[] table, int voice, int line) {
            int place = voice * L + line;
            return line >= 0 && line < L && place >= 0 && place < table.length ? table[place] : 0;
        }

        private void countFrom(Book b, Log g) {
            for (int i = 0; i < SIZE; i++) {
                from[i] = 0;
                fewest[i] = FAR;
            }
            for (int v = g.voices - 1; v >= 0 && v < Log.MOST_VOICES; v--) {
                for (int l = 0; l < b.lines && l < L; l++) {
                    if (g.mayBe(v, b.whoSays(l))) {
                        from[v * L + l] = behind(b, g, v, l);
                        fewest[v * L + l] = fewestBehind(b, g, v, l);
                    }
                }
            }
        }

        /** How many ways fit behind a line that is a voice; one if the voice is the last. */
        private long behind(Book b, Log g, int voice, int line) {
            if (voice == g.voices - 1) {
                return 1;
            }
            long sum = 0;
            for (int k = 0; k < b.howManyFollow(line); k++) {
                sum += at(from, voice + 1, b.following(line, k));
            }
            return sum;
        }

        private int fewestBehind(Book b, Log g, int voice, int line) {
            if (voice == g.voices - 1) {
                return 0;
            }
            int least = FAR;
            for (int k = 0; k < b.howManyFollow(line); k++) {
                int next = b.following(line, k);
                int place = (voice + 1) * L + next;
                if (place >= 0 && place < SIZE) {
                    least = Math.min(least, fewest[place] + b.strayingOf(line, next));
                }
            }
            return least;
        }

        private void countUpTo(Book b, Log g) {
            for (int i = 0; i < SIZE; i++) {
                upTo[i] = 0;
            }
            upTo[0] = at(from, 0, 0) == 0 ? 0 : 1;
            for (int v = 0; v + 1 < g.voices && v + 1 < Log.MOST_VOICES; v++) {
                for (int l = 0; l < b.lines && l < L; l++) {
                    for (int k = 0; k < b.howManyFollow(l); k++) {
                        int next = b.following(l, k);
                        if (b.has(next) && g.mayBe(v + 1, b.whoSays(next))) {
                            upTo[(v + 1) * L + next] += upTo[v * L + l];
                        }
                    }
                }
            }
        }

        private int firstWayAt(Book b, int k) {
            int line = 0;
            for (int v = 1; v <= k; v++) {
                int next = NONE;
                for (int j = 0; j < b.howManyFollow(line); j++) {
                    int other = b.following(line, j);
                    if (at(from, v, other) > 0 && (next == NONE || other < next)) {
                        next = other;
                    }
                }
                line = next;
            }
            return line;
        }

        /** Through how many ways that fit a line goes as a voice. */
        private long through(int voice, int line) {
            return at(upTo, voice, line) * at(from, voice, line);
        }

        private int sureAt(Book b, Log g, int voice) {
            countUpTo(b, g);
            for (int l = 0; l < b.lines; l++) {
                if (through(voice, l) == at(from, 0, 0)) {
                    return l;
                }
            }
            return NONE;
        }

        private int bestGuess(Book b, Log g) {
            countUpTo(b, g);
            int best = NONE;
            long least = 0;
            for (int v = 0; v < g.voices; v++) {
                if (!g.isGap(v)) {
                    continue;
                }
                long most = mostOfOnePerson(b, v);
                if (best == NONE || most < least) {
                    least = most;
                    best = v;
                }
            }
            return best;
        }

        private long mostOfOnePerson(Book b, int voice) {
            long most = 0;
            for (int p = 0; p < PEOPLE; p++) {
                long sum = 0;
                for (int l = 0; l < b.lines; l++) {
                    sum += b.whoSays(l) == p ? through(voice, l) : 0;
                }
                most = Math.max(most, sum);
            }
            return most;
        }
    }
}

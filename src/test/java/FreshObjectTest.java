import java.util.Random;

/** Each call on an object that has answered many others, against the same call on a fresh one: nothing stays behind. */
public final class FreshObjectTest {
    private static final Random RANDOM = new Random(33);
    private static final int CALLS = 25;

    public static void main(String[] args) {
        for (int round = 0; round < 300; round++) {
            String[] texts = texts();
            CellarPrompter used = told(texts);
            for (int call = 0; call < 150; call++) {
                int which = RANDOM.nextInt(CALLS);
                int[] n = numbers();
                Kit.due("call " + which, answer(used, which, n), answer(told(texts), which, n));
            }
        }
        Kit.finish("FreshObjectTest");
    }

    /** Two of each sort, in turn. */
    private static String[] texts() {
        String[] texts = new String[8];
        for (int i = 0; i < 2; i++) {
            String book;
            do {
                book = Oracle.random(RANDOM, RANDOM.nextInt(3) == 0 ? 20 : 6).text();
            } while (book.length() > 600);
            texts[i] = book;
            texts[2 + i] = row(RANDOM.nextInt(20), "say 0;say 1;say 2;dry;wait;prompt;go;out 0;in 0;out 1;in 1;");
            texts[4 + i] = row(RANDOM.nextInt(6), "heard 0;heard 1;heard 2;gap;gap;gap;gap;");
            texts[6 + i] = "houses " + (4 + RANDOM.nextInt(6)) + ";"
                + row(RANDOM.nextInt(9), "wall 0 1;wall 1 9;wall 2 1;loud 0 9;loud 1 0;loud 2 5;loud 3 7;book 1 1;");
        }
        return texts;
    }

    private static String row(int many, String of) {
        String[] parts = of.split(";");
        StringBuilder text = new StringBuilder();
        for (int i = 0; i < many; i++) {
            text.append(parts[RANDOM.nextInt(parts.length)]).append(';');
        }
        return text.toString();
    }

    private static CellarPrompter told(String[] texts) {
        CellarPrompter x = new CellarPrompter();
        for (int i = 0; i < texts.length; i++) {
            Kit.due("text " + texts[i], Kit.tell(x, i / 2, -1, texts[i]), i % 2);
        }
        return x;
    }

    /** Two numbers of books and the like, a scene or a person, a small number, a what. */
    private static int[] numbers() {
        int what = RANDOM.nextInt(3) == 0 ? RANDOM.nextInt(50) : RANDOM.nextInt(12);
        return new int[] {RANDOM.nextInt(2), RANDOM.nextInt(2), RANDOM.nextInt(10), 1 + RANDOM.nextInt(9), what,
            RANDOM.nextInt(64)};
    }

    private static long answer(CellarPrompter x, int which, int[] n) {
        boolean odd = n[5] % 2 == 1;
        boolean high = n[5] > 31;
        switch (which) {
            case 0: return x.book(n[0], n[4]);
            case 1: return x.follower(n[0], n[2], n[3] - 1);
            case 2: return x.deed(n[0], n[3], n[5] % 2);
            case 3: return x.till(n[0], n[1]);
            case 4: return x.state(n[0], n[1], n[3], n[4]);
            case 5: return x.avoid(n[0], n[2], n[3], n[4] - 1);
            case 6: return x.soonest(n[0], n[2], n[3]);
            case 7: return x.together(n[0], n[2] % 6, n[4] % 6);
            case 8: return x.comes(n[0], n[2], n[3], odd, high);
            case 9: return x.harm(n[0], n[3], odd, high);
            case 10: return x.loop(n[0], odd);
            case 11: return x.merged(n[0], n[1], n[3], n[4] - 2);
            case 12: return x.voice(n[0], n[4] - 1);
            case 13: return x.fits(n[0], n[1], n[4]);
            case 14: return x.town(n[0], n[4]);
            case 15: return x.drawn(n[0], n[5] * 7919, n[5] % 61, n[4]);
            case 16: return x.bar(n[0], n[2]);
            case 17: return x.must(n[0], n[2]);
            case 18: return x.ways(n[0], n[3]);
            case 19: return x.worst(n[0], n[3] * 2, n[2], odd);
            case 20: return x.lost(n[0], odd);
            case 21: return x.force(n[0], n[2], n[5]);
            case 22: return x.prompts(n[0], n[3], odd);
            case 23: return x.parted(n[0], n[1]);
            default: return x.after(n[0], n[1], n[3] % 3);
        }
    }
}

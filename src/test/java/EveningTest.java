import java.util.ArrayList;
import java.util.List;
import java.util.Random;

/** Evenings told and drawn by a fixed seed, each deed played again by a plain player of its own. */
public final class EveningTest {
    private static final Random RANDOM = new Random(11);
    private static final String[] WORDS = {"say", "out", "in", "dry", "prompt", "wait", "go"};

    private final Oracle book;
    private int minute;
    private int last = -1;
    private int silence;
    private int harm;
    private int strayings;
    private int prompted;
    private int cuts;
    private final boolean[] in = {true, true, true, true, true, true};
    private final int[] said = new int[6];
    private final int[] dried = new int[6];
    private int longest;
    private int fined = -1;

    private EveningTest(Oracle book) {
        this.book = book;
    }

    public static void main(String[] args) {
        for (int round = 0; round < 3000; round++) {
            Oracle book = Oracle.random(RANDOM, 12);
            if (book.text().length() <= 600) {
                CellarPrompter x = Kit.with(book.text(), null, null, null);
                told(x, book);
                drawn(x, book);
            }
        }
        Kit.finish("EveningTest");
    }

    /** Deeds that mostly can be, so that evenings grow long. */
    private static List<int[]> deeds(Oracle book) {
        List<int[]> deeds = new ArrayList<>();
        EveningTest player = new EveningTest(book);
        int many = RANDOM.nextInt(41);
        for (int tries = 0; deeds.size() < many && tries < 400; tries++) {
            int word = RANDOM.nextInt(3) == 0 ? 0 : RANDOM.nextInt(7);
            int number = -1;
            if (word == 0) {
                List<Integer> may = player.may();
                number = may.isEmpty() || RANDOM.nextInt(30) == 0 ? RANDOM.nextInt(20)
                    : may.get(RANDOM.nextInt(may.size()));
            } else if (word <= 2) {
                number = RANDOM.nextInt(6);
            }
            if (player.can(word, number)) {
                player.act(word, number);
                deeds.add(new int[] {word, number});
            } else if (RANDOM.nextInt(60) == 0) {
                deeds.add(new int[] {word, number});
            }
        }
        return deeds;
    }

    private static void told(CellarPrompter x, Oracle book) {
        List<int[]> deeds = deeds(book);
        StringBuilder text = new StringBuilder();
        for (int[] d : deeds) {
            text.append(WORDS[d[0]]).append(d[1] < 0 ? ";" : " " + d[1] + ";");
        }
        String told = text + " in " + book.text();
        Kit.due("text " + text, Kit.tell(x, 1, -1, text.toString()), 0);
        EveningTest player = new EveningTest(book);
        int n = 0;
        player.compare(x, n, told);
        while (n < deeds.size() && player.can(deeds.get(n)[0], deeds.get(n)[1])) {
            player.act(deeds.get(n)[0], deeds.get(n)[1]);
            n++;
            player.longest = Math.max(player.longest, player.silence);
            player.fined = player.fined < 0 && player.fines() > 0 ? n : player.fined;
            player.compare(x, n, told);
        }
        Kit.due("till of " + told, x.till(0, 0), n);
        Kit.due("state beyond", x.state(0, 0, n + 1, 0), -2);
        Kit.due("hushed " + told, x.after(0, 0, 0), player.longest);
        Kit.due("loudest " + told, x.after(0, 0, 1), player.loudest());
        Kit.due("fined " + told, x.after(0, 0, 2), player.fined);
    }

    private static void drawn(CellarPrompter x, Oracle book) {
        int seed = RANDOM.nextInt();
        int n = RANDOM.nextInt(61);
        EveningTest player = new EveningTest(book);
        long state = seed & 0xffffffffL;
        for (int i = 0; i < n; i++) {
            state = (state * 1103515245L + 12345L) & 0xffffffffL;
            int what = (int) ((state >> 16) % 8);
            int word = what < 4 ? 0 : what == 4 ? 3 : what == 5 ? 4 : what == 6 ? 6 : 1;
            int number = what < 3 ? player.due() : -1;
            if (what == 3) {
                List<Integer> f = player.last < 0 ? List.of() : book.followers(player.last);
                if (f.isEmpty()) {
                    continue;
                }
                state = (state * 1103515245L + 12345L) & 0xffffffffL;
                number = f.get((int) ((state >> 16) % f.size()));
            } else if (what == 7) {
                state = (state * 1103515245L + 12345L) & 0xffffffffL;
                number = (int) ((state >> 16) % 6);
                word = player.in[number] ? 1 : 2;
            }
            if (player.can(word, number)) {
                player.act(word, number);
            }
        }
        int[] what = player.all();
        for (int i = 0; i < what.length; i += 2) {
            Kit.due("drawn " + seed + " " + n + " " + what[i] + " of " + book.text(), x.drawn(0, seed, n, what[i]),
                book.lines.isEmpty() ? -2 : what[i + 1]);
        }
    }

    private List<Integer> may() {
        if (last < 0) {
            return book.lines.isEmpty() ? List.of() : List.of(0);
        }
        return book.followers(last);
    }

    private int due() {
        return may().isEmpty() ? -1 : may().get(0);
    }

    private int fines() {
        return strayings > book.free ? strayings - book.free : 0;
    }

    private boolean dueIsIn() {
        return due() >= 0 && in[book.who(due())];
    }

    private boolean can(int word, int number) {
        switch (word) {
            case 0:
                return may().contains(number) && in[book.who(number)];
            case 1:
                return in[number];
            case 2:
                return !in[number];
            case 3:
                return dueIsIn();
            case 4:
                return silence > 0 && dueIsIn();
            case 5:
                return true;
            default:
                return due() >= 0 && (silence >= book.cut || !dueIsIn());
        }
    }

    private void act(int word, int number) {
        minute += word == 1 || word == 2 ? 0 : 1;
        switch (word) {
            case 0:
                strayings += number == due() ? 0 : 1;
                say(number);
                break;
            case 1:
                in[number] = false;
                break;
            case 2:
                in[number] = true;
                break;
            case 3:
                dried[book.who(due())]++;
                silence++;
                break;
            case 4:
                prompted++;
                say(due());
                break;
            case 5:
                silence++;
                break;
            default:
                cuts++;
                last = due();
                silence = 0;
                break;
        }
    }

    private void say(int line) {
        harm += book.harm(line);
        said[book.who(line)]++;
        last = line;
        silence = 0;
    }

    private int loudest() {
        int best = -1;
        for (int p = 5; p >= 0; p--) {
            if (said[p] > 0 && (best < 0 || said[p] >= said[best])) {
                best = p;
            }
        }
        return best;
    }

    /** Each what, and what it answers. */
    private int[] all() {
        int room = 0;
        for (int p = 0; p < 6; p++) {
            room += in[p] ? 1 << p : 0;
        }
        return new int[] {0, minute, 1, last, 2, due(), 3, silence, 4, harm, 5, strayings, 6, fines(), 7, prompted,
            8, cuts, 9, room, 10, said[0], 11, said[1], 12, said[2], 13, said[3], 14, said[4], 15, said[5],
            20, dried[0], 21, dried[1], 22, dried[2], 23, dried[3], 24, dried[4], 25, dried[5]};
    }

    private void compare(CellarPrompter x, int n, String told) {
        int[] what = all();
        for (int i = 0; i < what.length; i += 2) {
            Kit.due("state " + n + " " + what[i] + " of " + told, x.state(0, 0, n, what[i]), what[i + 1]);
        }
    }
}

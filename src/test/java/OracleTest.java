import java.util.List;
import java.util.Random;

/** Books, logs and towns by a fixed seed: each answer against the one that trying out every way finds. */
public final class OracleTest {
    private static final Random RANDOM = new Random(20261118);

    public static void main(String[] args) {
        for (int round = 0; round < 1500; round++) {
            Oracle a = smallBook(round % 3 == 0 ? 20 : 7);
            Oracle b = smallBook(7);
            CellarPrompter x = new CellarPrompter();
            Kit.due("text " + a.text(), Kit.tell(x, 0, -1, a.text()), 0);
            Kit.due("text " + b.text(), Kit.tell(x, 0, -1, b.text()), 1);
            lines(x, a);
            waysOf(x, a);
            scenes(x, a);
            oddsOf(x, a);
            twoBooks(x, a, b);
            logs(x, a);
            town(x);
        }
        Kit.finish("OracleTest");
    }

    /** One whose ways can all be tried out. */
    private static Oracle smallBook(int lines) {
        Oracle o;
        do {
            o = Oracle.random(RANDOM, lines);
        } while (branches(o) > 300 || o.text().length() > 600);
        return o;
    }

    private static long branches(Oracle o) {
        CellarPrompter x = new CellarPrompter();
        if (o.text().length() > 600) {
            return 0;
        }
        Kit.tell(x, 0, -1, o.text());
        return x.ways(0, 8);
    }

    private static void lines(CellarPrompter x, Oracle o) {
        Kit.due("book 0", x.book(0, 0), o.lines.size());
        Kit.due("book 1", x.book(0, 1), o.free);
        Kit.due("book 2", x.book(0, 2), o.cut);
        for (int p = 0; p < 6; p++) {
            Kit.due("book 10+", x.book(0, 10 + p), o.dries[p]);
            Kit.due("book 20+", x.book(0, 20 + p), o.child[p] ? 1 : 0);
        }
        for (int l = 0; l < o.lines.size(); l++) {
            for (int i = 0; i < 4; i++) {
                Kit.due("book " + (100 + 100 * i + l), x.book(0, 100 + 100 * i + l), o.lines.get(l)[i]);
            }
            List<Integer> f = o.followers(l);
            Kit.due("book 500+", x.book(0, 500 + l), f.isEmpty() ? -1 : f.get(0));
            Kit.due("book 600+", x.book(0, 600 + l), f.size());
            for (int k = 0; k <= f.size(); k++) {
                Kit.due("follower", x.follower(0, l, k), k < f.size() ? f.get(k) : -1);
            }
        }
        for (int i = 1; i <= 6; i++) {
            Kit.due("book behind", x.book(0, 100 * i + o.lines.size()), -2);
        }
    }

    private static void waysOf(CellarPrompter x, Oracle o) {
        int n = 1 + RANDOM.nextInt(8);
        Kit.due("ways " + n + " " + o.text(), x.ways(0, n), o.ways(n).size());
        int k = RANDOM.nextInt(4);
        Kit.due("worst " + n + " " + k + " " + o.text(), x.worst(0, n, k, false), o.worst(n, k, false));
        Kit.due("mild " + n + " " + k + " " + o.text(), x.worst(0, n, k, true), o.worst(n, k, true));
        Kit.due("loop " + o.text(), x.loop(0, false), o.loop()[0]);
        Kit.due("length " + o.text(), x.loop(0, true), o.loop()[1]);
        Kit.due("lost " + o.text(), x.lost(0, false), o.lost()[0]);
        Kit.due("lost length " + o.text(), x.lost(0, true), o.lost()[1]);
        for (int a = 0; a < 6; a++) {
            int b = RANDOM.nextInt(6);
            int due = o.together(a, b, 8);
            int got = x.together(0, a, b);
            Kit.due("together " + a + " " + b + " " + o.text(), got > 8 ? -1 : got, due);
        }
    }

    private static void scenes(CellarPrompter x, Oracle o) {
        for (int s = 0; s < 10; s++) {
            int n = 1 + RANDOM.nextInt(8);
            List<Integer> way = o.avoid(s, n);
            String call = "avoid " + s + " " + n + " " + o.text();
            Kit.due(call, x.avoid(0, s, n, -1), way == null ? -1 : o.strayings(way));
            for (int k = 0; k <= n; k++) {
                Kit.due(call + " " + k, x.avoid(0, s, n, k), way == null || k >= way.size() ? -1 : way.get(k));
            }
            int strayings = RANDOM.nextInt(4);
            int got = x.soonest(0, s, strayings);
            Kit.due("soonest " + s + " " + strayings + " " + o.text(), got > 7 ? -1 : got, o.soonest(s, strayings, 7));
            Kit.due("bar " + s + " " + o.text(), x.bar(0, s), o.bar(s));
            Kit.due("must " + s + " " + o.text(), x.must(0, s), o.must(s));
            if (o.lines.size() <= 8 && !o.lines.isEmpty()) {
                int people = RANDOM.nextInt(64);
                Kit.due("force " + s + " " + people + " " + o.text(), x.force(0, s, people), o.force(s, people));
            }
        }
    }

    private static void oddsOf(CellarPrompter x, Oracle o) {
        for (int i = 0; i < 6; i++) {
            int n = 1 + RANDOM.nextInt(9);
            int s = RANDOM.nextInt(10);
            boolean prompter = RANDOM.nextInt(3) == 0;
            long[] due = o.odds(s, n, prompter);
            Kit.due("comes " + s + " " + n + " " + o.text(), x.comes(0, s, n, prompter, false), due[0]);
            Kit.due("comes under " + s + " " + n + " " + o.text(), x.comes(0, s, n, prompter, true), due[1]);
            due = o.odds(-1, n, prompter);
            Kit.due("harm " + n + " " + o.text(), x.harm(0, n, prompter, false), due[0]);
            Kit.due("harm under " + n + " " + o.text(), x.harm(0, n, prompter, true), due[1]);
        }
        int n = 1 + RANDOM.nextInt(20);
        int sum = 0;
        for (int p : o.peopleByNext(n)) {
            sum += o.dries[p];
        }
        long over = x.prompts(0, n, false);
        long under = x.prompts(0, n, true);
        Kit.due("prompts " + n + " " + o.text(), over * 10, under * sum);
        int least = 10;
        for (int d = 10; d >= 1; d--) {
            least = sum * d % 10 == 0 ? d : least;
        }
        Kit.due("prompts under " + n + " " + o.text(), under, least);
    }

    private static void twoBooks(CellarPrompter x, Oracle a, Oracle b) {
        int n = 1 + RANDOM.nextInt(12);
        List<Integer> one = a.peopleByNext(n);
        List<Integer> other = b.peopleByNext(n);
        List<Integer> row = Oracle.merge(one, other);
        String call = "merged " + one + " " + other;
        Kit.due(call, x.merged(0, 1, n, -1), row.size());
        Kit.due(call + " common", x.merged(0, 1, n, -2), Oracle.common(one, other));
        for (int k = 0; k <= row.size(); k++) {
            Kit.due(call + " " + k, x.merged(0, 1, n, k), k < row.size() ? row.get(k) : -1);
        }
        Kit.due("parted " + a.text() + " " + b.text(), x.parted(0, 1), a.parted(b));
        Kit.due("parted from itself", x.parted(1, 1), -1);
    }

    private static void logs(CellarPrompter x, Oracle o) {
        int[] voices = new int[RANDOM.nextInt(9)];
        StringBuilder text = new StringBuilder();
        List<List<Integer>> ways = o.ways(Math.max(1, voices.length));
        List<Integer> way = ways.isEmpty() ? List.of() : ways.get(RANDOM.nextInt(ways.size()));
        for (int i = 0; i < voices.length; i++) {
            boolean gap = RANDOM.nextInt(3) != 0;
            int who = i < way.size() && RANDOM.nextInt(8) != 0 ? o.who(way.get(i)) : RANDOM.nextInt(6);
            voices[i] = gap ? 6 : who;
            text.append(gap ? "gap;" : "heard " + who + ";");
        }
        Kit.due("text " + text, Kit.tell(x, 2, -1, text.toString()), 0);
        Kit.due("voices", x.voice(0, -1), voices.length);
        List<List<Integer>> fit = o.fitting(voices);
        String call = "fits " + text + " " + o.text();
        Kit.due(call, x.fits(0, 0, 0), fit.size());
        int fewest = Integer.MAX_VALUE;
        for (List<Integer> w : fit) {
            fewest = Math.min(fewest, o.strayings(w));
        }
        Kit.due(call + " fewest", x.fits(0, 0, 1), fit.isEmpty() ? -1 : fewest);
        Kit.due(call + " guess", x.fits(0, 0, 2), o.guess(voices));
        for (int k = 0; k < voices.length; k++) {
            Kit.due(call + " voice", x.voice(0, k), voices[k]);
            Kit.due(call + " first " + k, x.fits(0, 0, 10 + k), fit.isEmpty() ? -1 : fit.get(0).get(k));
            int sure = fit.isEmpty() ? -1 : fit.get(0).get(k);
            for (List<Integer> w : fit) {
                sure = w.get(k) == sure ? sure : -1;
            }
            Kit.due(call + " sure " + k, x.fits(0, 0, 30 + k), sure);
        }
        Kit.due(call + " behind", x.fits(0, 0, 10 + voices.length), -2);
        Kit.due(call + " behind", x.fits(0, 0, 30 + voices.length), -2);
    }

    private static void town(CellarPrompter x) {
        int houses = 2 + RANDOM.nextInt(8);
        int[] walls = new int[houses];
        int[] books = new int[houses];
        int[] louds = new int[houses];
        StringBuilder text = new StringBuilder("houses " + houses + ";");
        for (int h = 0; h < houses; h++) {
            walls[h] = 1 + RANDOM.nextInt(4);
            books[h] = RANDOM.nextInt(2);
            louds[h] = RANDOM.nextInt(10);
            text.append(h < houses - 1 ? "wall " + h + " " + walls[h] + ";" : "");
            text.append("book " + h + " " + books[h] + "; loud " + h + " " + louds[h] + "\n;");
        }
        Kit.due("text " + text, Kit.tell(x, 3, -1, text.toString()), 0);
        Kit.due("town 0", x.town(0, 0), houses);
        boolean[][] heard = new boolean[houses][houses];
        for (int h = 0; h < houses; h++) {
            int bits = 0;
            for (int j = 0; j < houses; j++) {
                heard[h][j] = isHeard(walls, louds[h], h, j, 0);
                bits |= heard[h][j] ? 1 << j : 0;
            }
            Kit.due("town 10+ " + text, x.town(0, 10 + h), h < houses - 1 ? walls[h] : -1);
            Kit.due("town 20+ " + text, x.town(0, 20 + h), books[h]);
            Kit.due("town 30+ " + text, x.town(0, 30 + h), louds[h]);
            Kit.due("town 40+ " + text, x.town(0, 40 + h), bits);
        }
        listening(x, heard, text.toString());
        guarding(x, heard, louds, text.toString());
        int wrong = 0;
        for (int h = 0; h + 1 < houses; h++) {
            wrong += books[h] != books[h + 1] && heard[h][h + 1] && heard[h + 1][h] ? 1 : 0;
        }
        Kit.due("wrong " + text, x.town(0, 4), wrong);
        int hush = 0;
        while (anyHeard(walls, louds, hush)) {
            hush++;
        }
        Kit.due("hush " + text, x.town(0, 5), hush);
    }

    private static boolean isHeard(int[] walls, int loud, int from, int to, int added) {
        int sum = 0;
        for (int h = Math.min(from, to); h < Math.max(from, to); h++) {
            sum += walls[h] + added;
        }
        return sum < loud;
    }

    private static boolean anyHeard(int[] walls, int[] louds, int added) {
        for (int h = 0; h < louds.length; h++) {
            for (int j = 0; j < louds.length; j++) {
                if (h != j && isHeard(walls, louds[h], h, j, added)) {
                    return true;
                }
            }
        }
        return false;
    }

    private static void listening(CellarPrompter x, boolean[][] heard, String text) {
        int best = -1;
        int most = -1;
        for (int j = 0; j < heard.length; j++) {
            int others = 0;
            for (int h = 0; h < heard.length; h++) {
                others += h != j && heard[h][j] ? 1 : 0;
            }
            if (others > most) {
                most = others;
                best = j;
            }
        }
        Kit.due("listen " + text, x.town(0, 1), best);
        Kit.due("listen, how many " + text, x.town(0, 2), most);
    }

    private static void guarding(CellarPrompter x, boolean[][] heard, int[] louds, String text) {
        int best = -1;
        for (int size = 0; best < 0; size++) {
            for (int guards = 0; guards < 1 << heard.length && best < 0; guards++) {
                boolean good = Integer.bitCount(guards) == size;
                for (int h = 0; h < heard.length && good; h++) {
                    boolean held = (guards >> h & 1) == 1 || louds[h] == 0;
                    for (int j = 0; j < heard.length; j++) {
                        held |= (guards >> j & 1) == 1 && heard[h][j];
                    }
                    good = held;
                }
                best = good ? guards : best;
            }
        }
        Kit.due("guard " + text, x.town(0, 3), best);
    }
}

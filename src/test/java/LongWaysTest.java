import java.util.ArrayList;
import java.util.HashMap;
import java.util.HashSet;
import java.util.List;
import java.util.Map;
import java.util.Random;
import java.util.Set;

/** Long ways of large books, of which trying out every one (OracleTest) would take too long: told step by step. */
public final class LongWaysTest {
    private static final Random RANDOM = new Random(1914);

    private final Oracle o;
    private final CellarPrompter x = new CellarPrompter();
    private final int lines;
    private final List<List<Integer>> followers = new ArrayList<>();

    private LongWaysTest(Oracle o) {
        this.o = o;
        lines = o.lines.size();
        for (int l = 0; l < lines; l++) {
            followers.add(o.followers(l));
        }
        Kit.due("text " + o.text(), Kit.tell(x, 0, -1, o.text()), 0);
    }

    public static void main(String[] args) {
        for (int round = 0; round < 1500; round++) {
            LongWaysTest t = new LongWaysTest(round % 2 == 0 ? manyBranches() : longRow());
            int n = 1 + RANDOM.nextInt(20);
            int k = RANDOM.nextInt(10);
            for (int scene = 0; scene < 10; scene++) {
                t.avoid(scene, n);
                t.soonest(scene, k);
                t.force(scene, RANDOM.nextInt(64));
            }
            t.together(RANDOM.nextInt(6), RANDOM.nextInt(6));
            t.harms(n, k);
            t.ways(1 + RANDOM.nextInt(12));
            t.fits();
        }
        Kit.finish("LongWaysTest");
    }

    private static Oracle manyBranches() {
        Oracle o;
        do {
            o = Oracle.random(RANDOM, 20);
        } while (o.lines.isEmpty() || o.text().length() > 600);
        return o;
    }

    /** Twenty lines, most of them one behind the other, so that far ones take many lines. */
    private static Oracle longRow() {
        Oracle o = new Oracle();
        for (int l = 0; l < 20; l++) {
            int cue = RANDOM.nextInt(6) == 0 ? RANDOM.nextInt(20) : Math.max(0, l - 1);
            o.lines.add(new int[] {cue, RANDOM.nextInt(4) == 0 ? RANDOM.nextInt(6) : l / 4,
                RANDOM.nextInt(12) == 0 ? RANDOM.nextInt(10) : l / 2, RANDOM.nextInt(10)});
        }
        for (int i = RANDOM.nextInt(9); i > 0; i--) {
            o.backs.add(new int[] {RANDOM.nextInt(20), RANDOM.nextInt(20)});
        }
        return o;
    }

    private boolean strays(int line, int further) {
        return followers.get(line).get(0) != further;
    }

    /** A way's strayings ahead of its lines: so rows of numbers compare as the document orders ways. */
    private void avoid(int scene, int n) {
        List<Integer> best = best(scene, 0, n, new HashMap<>());
        String call = "avoid " + scene + " " + n + " " + o.text();
        Kit.due(call, x.avoid(0, scene, n, -1), best == null ? -1 : best.get(0));
        for (int k = 0; k <= n; k++) {
            boolean there = best != null && k + 1 < best.size();
            Kit.due(call + " " + k, x.avoid(0, scene, n, k), there ? best.get(k + 1) : -1);
        }
    }

    private List<Integer> best(int scene, int line, int left, Map<Integer, List<Integer>> known) {
        int key = left * 20 + line;
        if (known.containsKey(key)) {
            return known.get(key);
        }
        List<Integer> best = null;
        if (o.scene(line) != scene) {
            best = left == 1 || followers.get(line).isEmpty() ? List.of(0, line) : null;
            for (int next : left == 1 ? List.<Integer>of() : followers.get(line)) {
                List<Integer> rest = best(scene, next, left - 1, known);
                if (rest == null) {
                    continue;
                }
                List<Integer> way = new ArrayList<>(List.of(rest.get(0) + (strays(line, next) ? 1 : 0), line));
                way.addAll(rest.subList(1, rest.size()));
                best = best == null || isAhead(way, best) ? way : best;
            }
        }
        known.put(key, best);
        return best;
    }

    private static boolean isAhead(List<Integer> one, List<Integer> other) {
        for (int i = 0; i < one.size() && i < other.size(); i++) {
            if (!one.get(i).equals(other.get(i))) {
                return one.get(i) < other.get(i);
            }
        }
        return false;
    }

    /** All pairs of a line and strayings up to k that some way comes to, length by length. */
    private void soonest(int scene, int k) {
        Set<Integer> at = new HashSet<>(Set.of(0));
        int due = -1;
        for (int length = 1; length <= 200 && due < 0; length++) {
            Set<Integer> on = new HashSet<>();
            for (int pair : at) {
                int line = pair % 20;
                due = o.scene(line) == scene ? length : due;
                for (int next : followers.get(line)) {
                    int strayings = pair / 20 + (strays(line, next) ? 1 : 0);
                    if (strayings <= k) {
                        on.add(strayings * 20 + next);
                    }
                }
            }
            at = on;
        }
        Kit.due("soonest " + scene + " " + k + " " + o.text(), x.soonest(0, scene, k), due);
    }

    /** Lines from which it comes for sure in so many lines, set by set. */
    private void force(int scene, int people) {
        Set<Integer> sure = new HashSet<>();
        int due = -1;
        for (int length = 1; length <= lines && due < 0; length++) {
            Set<Integer> more = new HashSet<>();
            for (int l = 0; l < lines; l++) {
                List<Integer> f = followers.get(l);
                boolean they = (people >> o.who(l) & 1) == 1;
                boolean forced = they ? f.stream().anyMatch(sure::contains) : !f.isEmpty() && sure.containsAll(f);
                if (forced || o.scene(l) == scene) {
                    more.add(l);
                }
            }
            sure = more;
            due = sure.contains(0) ? length : -1;
        }
        Kit.due("force " + scene + " " + people + " " + o.text(), x.force(0, scene, people), due);
    }

    private void together(int a, int b) {
        Set<List<Integer>> seen = new HashSet<>();
        List<List<Integer>> at = List.of(List.of(0, 0));
        int due = -1;
        for (int length = 1; !at.isEmpty() && due < 0; length++) {
            List<List<Integer>> on = new ArrayList<>();
            for (List<Integer> state : at) {
                int line = state.get(0);
                int said = state.get(1) | (o.who(line) == a ? 1 : 0) | (o.who(line) == b ? 2 : 0);
                due = said == 3 ? length : due;
                for (int next : followers.get(line)) {
                    if (seen.add(List.of(next, said))) {
                        on.add(List.of(next, said));
                    }
                }
            }
            at = on;
        }
        Kit.due("together " + a + " " + b + " " + o.text(), x.together(0, a, b), due);
    }

    /** From line 0 on: the most and the least harm up to each line, by strayings. */
    private void harms(int n, int k) {
        for (boolean mild : new boolean[] {false, true}) {
            Map<Integer, Integer> at = new HashMap<>(Map.of(0, o.harm(0)));
            int due = -1;
            for (int length = 1; length <= n; length++) {
                Map<Integer, Integer> on = new HashMap<>();
                for (Map.Entry<Integer, Integer> e : at.entrySet()) {
                    int line = e.getKey() % 20;
                    if (length == n || followers.get(line).isEmpty()) {
                        due = due < 0 ? e.getValue() : better(due, e.getValue(), mild);
                        continue;
                    }
                    for (int next : followers.get(line)) {
                        int strayings = e.getKey() / 20 + (strays(line, next) ? 1 : 0);
                        if (strayings <= k) {
                            on.merge(strayings * 20 + next, e.getValue() + o.harm(next), (p, q) -> better(p, q, mild));
                        }
                    }
                }
                at = on;
            }
            Kit.due("worst " + n + " " + k + " " + mild + " " + o.text(), x.worst(0, n, k, mild), due);
        }
    }

    private static int better(int one, int other, boolean mild) {
        return mild ? Math.min(one, other) : Math.max(one, other);
    }

    private void ways(int n) {
        long ended = 0;
        long[] at = new long[lines];
        at[0] = 1;
        for (int length = 1; length < n; length++) {
            long[] on = new long[lines];
            for (int l = 0; l < lines; l++) {
                ended += followers.get(l).isEmpty() ? at[l] : 0;
                for (int next : followers.get(l)) {
                    on[next] += at[l];
                }
            }
            at = on;
        }
        for (int l = 0; l < lines; l++) {
            ended += at[l];
        }
        Kit.due("ways " + n + " " + o.text(), x.ways(0, n), ended);
    }

    /** May[v]: the lines (bits) that voice v may be. */
    private long howMany(int[] may) {
        long[] at = new long[lines];
        at[0] = may[0] & 1;
        for (int v = 1; v < may.length; v++) {
            long[] on = new long[lines];
            for (int l = 0; l < lines; l++) {
                for (int next : followers.get(l)) {
                    on[next] += (may[v] >> next & 1) * at[l];
                }
            }
            at = on;
        }
        long sum = 0;
        for (long many : at) {
            sum += many;
        }
        return sum;
    }

    private long howManyWith(int[] may, int voice, int bits) {
        int[] fewer = may.clone();
        fewer[voice] &= bits;
        return howMany(fewer);
    }

    private int saidBy(int person) {
        int bits = 0;
        for (int l = 0; l < lines; l++) {
            bits |= person == 6 || o.who(l) == person ? 1 << l : 0;
        }
        return bits;
    }

    private void fits() {
        int[] voices = new int[1 + RANDOM.nextInt(12)];
        int[] may = new int[voices.length];
        StringBuilder text = new StringBuilder();
        int line = 0;
        for (int v = 0; v < voices.length; v++) {
            voices[v] = RANDOM.nextInt(3) == 0 ? o.who(line) : 6;
            may[v] = saidBy(voices[v]);
            text.append(voices[v] == 6 ? "gap;" : "heard " + voices[v] + ";");
            List<Integer> f = followers.get(line);
            line = f.isEmpty() ? RANDOM.nextInt(lines) : f.get(RANDOM.nextInt(f.size()));
        }
        Kit.due("text " + text, Kit.tell(x, 2, -1, text.toString()), 0);
        String call = "fits " + text + o.text();
        long all = howMany(may);
        Kit.due(call, x.fits(0, 0, 0), all);
        Kit.due(call + ", guess", x.fits(0, 0, 2), all == 0 ? -1 : guess(voices, may));
        int[] first = may.clone();
        for (int v = 0; v < voices.length; v++) {
            int lead = -1;
            int sure = -1;
            for (int l = lines - 1; l >= 0 && all > 0; l--) {
                lead = howManyWith(first, v, 1 << l) > 0 ? l : lead;
                sure = howManyWith(may, v, 1 << l) == all ? l : sure;
            }
            first[v] = lead < 0 ? 0 : 1 << lead;
            Kit.due(call + ", first " + v, x.fits(0, 0, 10 + v), lead);
            Kit.due(call + ", sure " + v, x.fits(0, 0, 30 + v), sure);
        }
        Kit.due(call + ", fewest", x.fits(0, 0, 1), fewest(may));
    }

    private int guess(int[] voices, int[] may) {
        int best = -1;
        long least = Long.MAX_VALUE;
        for (int v = 0; v < voices.length; v++) {
            long most = 0;
            for (int p = 0; p < 6; p++) {
                most = Math.max(most, howManyWith(may, v, saidBy(p)));
            }
            if (voices[v] == 6 && most < least) {
                least = most;
                best = v;
            }
        }
        return best;
    }

    private int fewest(int[] may) {
        int never = 1000;
        int[] at = new int[lines];
        java.util.Arrays.fill(at, never);
        at[0] = (may[0] & 1) == 1 ? 0 : never;
        for (int v = 1; v < may.length; v++) {
            int[] on = new int[lines];
            java.util.Arrays.fill(on, never);
            for (int l = 0; l < lines; l++) {
                for (int next : followers.get(l)) {
                    boolean there = (may[v] >> next & 1) == 1;
                    on[next] = there ? Math.min(on[next], at[l] + (strays(l, next) ? 1 : 0)) : on[next];
                }
            }
            at = on;
        }
        int least = never;
        for (int strayings : at) {
            least = Math.min(least, strayings);
        }
        return least >= never ? -1 : least;
    }
}

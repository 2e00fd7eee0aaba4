import java.math.BigInteger;
import java.util.ArrayList;
import java.util.Arrays;
import java.util.List;
import java.util.Random;
import java.util.TreeSet;

/** The document's terms again, by trying out every way: slow, and written without looking at the class. */
final class Oracle {
    static final int NEVER = -1;

    /** A book: lines of {cue, who, scene, harm}, backs of {from, to}. */
    final List<int[]> lines = new ArrayList<>();
    final List<int[]> backs = new ArrayList<>();
    final int[] dries = {2, 2, 2, 2, 2, 2};
    final boolean[] child = new boolean[6];
    int free = 3;
    int cut = 3;

    static Oracle random(Random r, int mostLines) {
        Oracle o = new Oracle();
        int n = r.nextInt(mostLines + 1);
        int people = 1 + r.nextInt(6);
        int scenes = 1 + r.nextInt(10);
        boolean tree = r.nextBoolean();
        for (int l = 0; l < n; l++) {
            int cue = tree && l > 0 ? r.nextInt(l) : r.nextInt(n);
            o.lines.add(new int[] {cue, r.nextInt(people), r.nextInt(scenes), r.nextInt(10)});
        }
        for (int i = n == 0 ? 0 : r.nextInt(9); i > 0; i--) {
            o.backs.add(new int[] {r.nextInt(n), r.nextInt(n)});
        }
        for (int p = 0; p < 6; p++) {
            o.dries[p] = r.nextInt(11);
            o.child[p] = r.nextInt(5) == 0;
        }
        o.free = r.nextInt(10);
        o.cut = 1 + r.nextInt(9);
        return o;
    }

    String text() {
        StringBuilder s = new StringBuilder();
        for (int[] l : lines) {
            s.append("line " + l[0] + " " + l[1] + " " + l[2] + " " + l[3] + ";");
        }
        for (int[] b : backs) {
            s.append("back " + b[0] + " " + b[1] + ";");
        }
        for (int p = 0; p < 6; p++) {
            s.append(dries[p] == 2 ? "" : "dry " + p + " " + dries[p] + ";");
            s.append(child[p] ? "child " + p + ";" : "");
        }
        return s.append("free " + free + ";cut " + cut + ";").toString();
    }

    List<Integer> followers(int line) {
        List<Integer> all = new ArrayList<>();
        for (int l = 1; l < lines.size(); l++) {
            if (lines.get(l)[0] == line) {
                all.add(l);
            }
        }
        for (int[] b : backs) {
            if (b[0] == line && !all.contains(b[1])) {
                all.add(b[1]);
            }
        }
        return all;
    }

    int who(int line) {
        return lines.get(line)[1];
    }

    int scene(int line) {
        return lines.get(line)[2];
    }

    int harm(int line) {
        return child[who(line)] ? 0 : lines.get(line)[3];
    }

    int next(int line) {
        List<Integer> f = followers(line);
        return f.isEmpty() ? -1 : f.get(0);
    }

    /** All ways of n, by numbers. */
    List<List<Integer>> ways(int n) {
        List<List<Integer>> found = new ArrayList<>();
        if (!lines.isEmpty()) {
            extend(found, new ArrayList<>(List.of(0)), n);
        }
        return found;
    }

    private void extend(List<List<Integer>> found, List<Integer> way, int n) {
        TreeSet<Integer> on = new TreeSet<>(followers(way.get(way.size() - 1)));
        if (way.size() == n || on.isEmpty()) {
            found.add(new ArrayList<>(way));
            return;
        }
        for (int l : on) {
            way.add(l);
            extend(found, way, n);
            way.remove(way.size() - 1);
        }
    }

    int strayings(List<Integer> way) {
        int sum = 0;
        for (int i = 1; i < way.size(); i++) {
            sum += next(way.get(i - 1)) == way.get(i) ? 0 : 1;
        }
        return sum;
    }

    List<Integer> avoid(int scene, int n) {
        List<Integer> best = null;
        for (List<Integer> way : ways(n)) {
            boolean has = false;
            for (int l : way) {
                has |= scene(l) == scene;
            }
            if (!has && (best == null || strayings(way) < strayings(best))) {
                best = way;
            }
        }
        return best;
    }

    /** As long as n lines are enough to tell. */
    int soonest(int scene, int k, int n) {
        for (int length = 1; length <= n; length++) {
            for (List<Integer> way : ways(length)) {
                if (way.size() == length && scene(way.get(length - 1)) == scene && strayings(way) <= k) {
                    return length;
                }
            }
        }
        return NEVER;
    }

    int together(int a, int b, int n) {
        for (int length = 1; length <= n; length++) {
            for (List<Integer> way : ways(length)) {
                boolean hasA = false;
                boolean hasB = false;
                for (int l : way) {
                    hasA |= who(l) == a;
                    hasB |= who(l) == b;
                }
                if (hasA && hasB && way.size() == length) {
                    return length;
                }
            }
        }
        return NEVER;
    }

    /** {N, D} of how likely the scene comes; of harm in the mean, if scene is -1. */
    long[] odds(int scene, int n, boolean prompter) {
        BigInteger[] f = lines.isEmpty() ? new BigInteger[] {BigInteger.ZERO, BigInteger.ONE}
            : oddsFrom(List.of(0), scene, n, prompter);
        BigInteger g = f[0].gcd(f[1]);
        return new long[] {f[0].divide(g).longValueExact(), f[1].divide(g).longValueExact()};
    }

    private BigInteger[] oddsFrom(List<Integer> may, int scene, int n, boolean prompter) {
        if (n == 0 || may.isEmpty()) {
            return new BigInteger[] {BigInteger.ZERO, BigInteger.ONE};
        }
        int d = prompter ? 0 : dries[who(may.get(0))];
        BigInteger[] said = oddsSaid(may.get(0), scene, n, prompter);
        BigInteger[] sum = {said[0].multiply(BigInteger.valueOf(10 - d)), said[1].multiply(BigInteger.TEN)};
        if (d > 0 && may.size() > 1) {
            BigInteger[] other = oddsSaid(may.get(1), scene, n, prompter);
            BigInteger over = other[0].multiply(BigInteger.valueOf(d));
            BigInteger under = other[1].multiply(BigInteger.TEN);
            sum = new BigInteger[] {sum[0].multiply(under).add(over.multiply(sum[1])), sum[1].multiply(under)};
        }
        BigInteger g = sum[0].gcd(sum[1]);
        return new BigInteger[] {sum[0].divide(g), sum[1].divide(g)};
    }

    private BigInteger[] oddsSaid(int line, int scene, int n, boolean prompter) {
        if (scene >= 0 && scene(line) == scene) {
            return new BigInteger[] {BigInteger.ONE, BigInteger.ONE};
        }
        BigInteger[] rest = oddsFrom(followers(line), scene, n - 1, prompter);
        if (scene >= 0) {
            return rest;
        }
        return new BigInteger[] {rest[0].add(rest[1].multiply(BigInteger.valueOf(harm(line)))), rest[1]};
    }

    List<Integer> byNext(int n) {
        List<Integer> row = new ArrayList<>();
        int line = lines.isEmpty() ? -1 : 0;
        while (line >= 0 && row.size() < n) {
            row.add(line);
            line = next(line);
        }
        return row;
    }

    List<Integer> peopleByNext(int n) {
        List<Integer> row = new ArrayList<>();
        for (int l : byNext(n)) {
            row.add(who(l));
        }
        return row;
    }

    /** {loop, length}. */
    int[] loop() {
        List<Integer> seen = new ArrayList<>();
        for (int l : byNext(100)) {
            if (seen.contains(l)) {
                return new int[] {seen.size() - seen.indexOf(l), seen.size()};
            }
            seen.add(l);
        }
        return new int[] {0, seen.size()};
    }

    /** The first shortest row that has both: rows are tried by length, then by numbers. */
    static List<Integer> merge(List<Integer> a, List<Integer> b) {
        for (int length = Math.max(a.size(), b.size());; length++) {
            List<Integer> row = mergeOf(a, 0, b, 0, length);
            if (row != null) {
                return row;
            }
        }
    }

    private static List<Integer> mergeOf(List<Integer> a, int i, List<Integer> b, int j, int length) {
        if (i == a.size() && j == b.size()) {
            return length == 0 ? new ArrayList<>() : null;
        }
        if (length < Math.max(a.size() - i, b.size() - j)) {
            return null;
        }
        for (int p = 0; p < 6; p++) {
            int ni = i < a.size() && a.get(i) == p ? i + 1 : i;
            int nj = j < b.size() && b.get(j) == p ? j + 1 : j;
            if (ni > i || nj > j) {
                List<Integer> rest = mergeOf(a, ni, b, nj, length - 1);
                if (rest != null) {
                    rest.add(0, p);
                    return rest;
                }
            }
        }
        return null;
    }

    static int common(List<Integer> a, List<Integer> b) {
        int best = 0;
        for (int bits = 0; bits < 1 << a.size(); bits++) {
            int j = 0;
            for (int i = 0; i < a.size() && j >= 0; i++) {
                if ((bits >> i & 1) == 1) {
                    while (j < b.size() && !b.get(j).equals(a.get(i))) {
                        j++;
                    }
                    j = j == b.size() ? -1 : j + 1;
                }
            }
            best = j >= 0 ? Math.max(best, Integer.bitCount(bits)) : best;
        }
        return best;
    }

    /** Voices: 6 is a gap. */
    List<List<Integer>> fitting(int[] voices) {
        List<List<Integer>> found = new ArrayList<>();
        // Of no voices the one row without lines fits, whatever the book.
        for (List<Integer> way : voices.length == 0 ? List.of(List.<Integer>of()) : ways(voices.length)) {
            boolean fits = way.size() == voices.length;
            for (int i = 0; fits && i < voices.length; i++) {
                fits = voices[i] == 6 || voices[i] == who(way.get(i));
            }
            if (fits) {
                found.add(way);
            }
        }
        return found;
    }

    int guess(int[] voices) {
        List<List<Integer>> fit = fitting(voices);
        int best = -1;
        int least = Integer.MAX_VALUE;
        for (int v = 0; v < voices.length && !fit.isEmpty(); v++) {
            int[] by = new int[6];
            for (List<Integer> way : fit) {
                by[who(way.get(v))]++;
            }
            int most = Arrays.stream(by).max().getAsInt();
            if (voices[v] == 6 && most < least) {
                least = most;
                best = v;
            }
        }
        return best;
    }

    private boolean canCome(int scene, int out, int without) {
        List<Integer> open = new ArrayList<>();
        List<Integer> seen = new ArrayList<>();
        if (!lines.isEmpty()) {
            open.add(0);
        }
        while (!open.isEmpty()) {
            int l = open.remove(open.size() - 1);
            if (seen.contains(l) || l == without || (out >> who(l) & 1) == 1) {
                continue;
            }
            if (scene(l) == scene) {
                return true;
            }
            seen.add(l);
            open.addAll(followers(l));
        }
        return false;
    }

    int bar(int scene) {
        int best = 63;
        for (int out = 63; out >= 0; out--) {
            if (!canCome(scene, out, -1) && Integer.bitCount(out) <= Integer.bitCount(best)) {
                best = out;
            }
        }
        return best;
    }

    int must(int scene) {
        if (!canCome(scene, 0, -1)) {
            return -1;
        }
        int bits = 0;
        for (int l = 0; l < lines.size(); l++) {
            if (scene(l) != scene && !canCome(scene, 0, l)) {
                bits += 1 << l;
            }
        }
        return bits;
    }

    int worst(int n, int k, boolean mild) {
        int best = -1;
        for (List<Integer> way : ways(n)) {
            int sum = 0;
            for (int l : way) {
                sum += harm(l);
            }
            if (strayings(way) <= k && (best < 0 || (mild ? sum < best : sum > best))) {
                best = sum;
            }
        }
        return best;
    }

    /** {line, length}. */
    int[] lost() {
        int[] best = {-1, -1};
        for (int l = 1; l < lines.size(); l++) {
            List<Integer> seen = new ArrayList<>();
            int line = 0;
            while (line >= 0 && !seen.contains(line)) {
                seen.add(line);
                List<Integer> f = followers(line);
                f.remove((Integer) l);
                line = f.isEmpty() ? -1 : f.get(0);
            }
            if (best[0] < 0 || seen.size() < best[1]) {
                best = new int[] {l, seen.size()};
            }
        }
        return best;
    }

    /** The least length in which they can force it, tried one by one. */
    int force(int scene, int people) {
        for (int n = 1; n <= lines.size(); n++) {
            if (forced(0, scene, people, n)) {
                return n;
            }
        }
        return NEVER;
    }

    private boolean forced(int line, int scene, int people, int n) {
        if (n == 0 || scene(line) == scene) {
            return n > 0;
        }
        List<Integer> f = followers(line);
        boolean they = (people >> who(line) & 1) == 1;
        for (int l : f) {
            if (forced(l, scene, people, n - 1) == they) {
                return they;
            }
        }
        return !they && !f.isEmpty();
    }

    int parted(Oracle other) {
        List<Integer> a = peopleByNext(20);
        List<Integer> b = other.peopleByNext(20);
        for (int k = 0; k < 20; k++) {
            int p = k < a.size() ? a.get(k) : -1;
            int q = k < b.size() ? b.get(k) : -1;
            if (p != q) {
                return k;
            }
        }
        return NEVER;
    }
}

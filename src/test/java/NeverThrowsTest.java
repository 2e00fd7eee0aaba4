import java.lang.management.ManagementFactory;
import java.lang.reflect.Method;
import java.lang.reflect.Modifier;
import java.util.ArrayList;
import java.util.Comparator;
import java.util.List;
import java.util.Random;

/** Any arguments in any state: no call throws, none makes more than the room has, the same calls answer the same. */
public final class NeverThrowsTest {
    private static final int[] EDGES = {Integer.MIN_VALUE, Integer.MIN_VALUE + 1, -1000, -3, -2, -1, 0, 1, 2, 3, 5, 6, 7,
        9, 10, 12, 13, 19, 20, 21, 25, 30, 40, 41, 60, 61, 63, 64, 100, 119, 600, 601, 619, 699, 700,
        Integer.MAX_VALUE - 20, Integer.MAX_VALUE};
    private static final String[] SCRAPS = {"line ", "dry ", "back ", "child ", "free ", "cut ", "say ", "out ", "in ",
        "prompt;", "wait;", "go;", "heard ", "gap;", "houses ", "wall ", "book ", "loud ", ";", "0 ", "1 ", "2;", "19 ",
        "99", "100", "\n", "\0", "z", "line 0 0 0 0;", "line 1 2 3 4;", "say 0;", "loud 1 9;"};

    public static void main(String[] args) throws Exception {
        List<Method> face = new ArrayList<>();
        for (Method m : CellarPrompter.class.getDeclaredMethods()) {
            if (Modifier.isPublic(m.getModifiers())) {
                face.add(m);
            }
        }
        face.sort(Comparator.comparing(Method::getName));
        Kit.due("methods of the face", face.size(), 32);
        for (int round = 0; round < 400; round++) {
            long first = run(face, round);
            Kit.due("the same calls again, run " + round, run(face, round), first);
        }
        allocation();
        Kit.finish("NeverThrowsTest");
    }

    private static long run(List<Method> face, int seed) throws Exception {
        Random r = new Random(seed);
        CellarPrompter x = new CellarPrompter();
        long sum = 0;
        for (int call = 0; call < 512; call++) {
            if (r.nextInt(6) == 0) {
                Kit.put(x, text(r));
                sum = sum * 31 + x.text(r.nextInt(4), r.nextInt(3) - 1);
                continue;
            }
            Method m = face.get(r.nextInt(face.size()));
            Object[] arguments = new Object[m.getParameterCount()];
            for (int i = 0; i < arguments.length; i++) {
                arguments[i] = m.getParameterTypes()[i] == boolean.class ? (Object) r.nextBoolean() : (Object) number(r, i);
            }
            Object answer = m.invoke(x, arguments);
            sum = sum * 31 + (answer instanceof Boolean ? ((Boolean) answer ? 1 : 0) : ((Number) answer).longValue());
        }
        return sum;
    }

    private static int number(Random r, int place) {
        if (place == 0 && r.nextInt(4) != 0) {
            return r.nextInt(2);
        }
        return r.nextInt(3) == 0 ? r.nextInt(13) : EDGES[r.nextInt(EDGES.length)];
    }

    private static String text(Random r) {
        if (r.nextInt(3) == 0) {
            Oracle o = Oracle.random(r, 20);
            return o.text().length() <= 600 ? o.text() : "";
        }
        StringBuilder text = new StringBuilder();
        int own = r.nextInt(4);
        int from = own == 0 ? 0 : own == 1 ? 6 : own == 2 ? 12 : 14;
        for (int i = r.nextInt(30); i > 0; i--) {
            text.append(SCRAPS[r.nextInt(5) == 0 ? r.nextInt(SCRAPS.length) : from + r.nextInt(4)]);
            text.append(r.nextBoolean() ? r.nextInt(10) + ";" : "");
        }
        return text.length() <= 600 ? text.toString() : text.substring(0, 600);
    }

    /** A whole run of the dearest calls stays far below the room's 7.3 million elements. */
    private static void allocation() {
        com.sun.management.ThreadMXBean threads =
            (com.sun.management.ThreadMXBean) ManagementFactory.getThreadMXBean();
        long id = Thread.currentThread().getId();
        dear();
        long before = threads.getThreadAllocatedBytes(id);
        dear();
        long bytes = threads.getThreadAllocatedBytes(id) - before;
        Kit.due("bytes made by a run: " + bytes, bytes < 400000, true);
    }

    private static void dear() {
        CellarPrompter x = Kit.with("line 0 0 0 0;line 0 1 1 1;line 0 2 2 2;back 1 0;back 2 0;", "say 0;say 1;say 0;",
            "gap;gap;gap;", "houses 9;");
        for (int i = 0; i < 40; i++) {
            x.image(i % 3);
            x.again(i % 3);
            x.state(0, 0, 3, 0);
            x.avoid(0, 1, 20, 5);
            x.comes(0, 1, 9, false, true);
            x.merged(0, 0, 12, 3);
            x.fits(0, 0, 2);
            x.town(0, 3);
            x.drawn(0, i, 60, 4);
            x.bar(0, 1);
            x.worst(0, 20, 9, true);
            x.force(0, 2, 1);
        }
    }
}

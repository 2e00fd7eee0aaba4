import java.io.PrintWriter;
import java.io.StringWriter;
import java.nio.file.Files;
import java.nio.file.Path;
import java.util.ArrayList;
import java.util.List;
import java.util.Map;
import java.util.Set;
import java.util.TreeMap;
import java.util.TreeSet;
import java.util.regex.Matcher;
import java.util.regex.Pattern;
import java.util.spi.ToolProvider;
import java.util.stream.Collectors;
import java.util.stream.Stream;

/** Rules of LANGUAGE.md that the compiled class tells: who calls whom (8, 11), what of the library (4), fields (5, 11). */
public final class CallsTest {
    private static final Pattern CLASS = Pattern.compile("^(?:\\w+ )*class (\\S+)( extends \\S+)? \\{");
    private static final Pattern METHOD = Pattern.compile("^  (?:\\w+ )*?(?:\\S+ )?([\\w.$]+)\\(.*\\);");
    private static final Pattern FIELD = Pattern.compile("^  (?!.*\\()((?:\\w+ )*)(\\S+) (\\w+);");
    private static final Pattern CALL = Pattern.compile("// (?:Interface)?Method (\\S+?):");
    private static final Set<String> LIBRARY = Set.of("java/lang/Object.<init>", "java/lang/Math.max",
        "java/lang/Math.min", "java/lang/Integer.bitCount", "java/lang/String.length", "java/lang/String.charAt",
        "java/lang/System.arraycopy");

    private static final Map<String, Set<String>> CALLS = new TreeMap<>();
    private static final Map<String, Integer> FIELDS = new TreeMap<>();

    public static void main(String[] args) throws Exception {
        String told = disassembled();
        read(told);
        Kit.due("methods were found", CALLS.size() > 100, true);
        for (String method : CALLS.keySet()) {
            // Eight calls deep: the one that is called first, and seven further ones.
            Kit.due("calls from " + method + ": " + deepest(method, List.of()), deepest(method, List.of()).size() <= 8, true);
        }
        for (Map.Entry<String, Integer> e : FIELDS.entrySet()) {
            Kit.due("fields of " + e.getKey(), e.getValue() <= 20, true);
        }
        Kit.due("classes", FIELDS.size() <= 12, true);
        String[] none = {"invokedynamic", "athrow", "monitorenter", "Exception table", "checkcast", "instanceof",
            " fadd", " dadd", " fmul", " dmul", " fdiv", " ddiv"};
        for (String word : none) {
            Kit.due("in the compiled class: " + word, told.contains(word), false);
        }
        Kit.finish("CallsTest");
    }

    private static String disassembled() throws Exception {
        Path folder = Path.of(CellarPrompter.class.getProtectionDomain().getCodeSource().getLocation().toURI());
        List<String> arguments = new ArrayList<>(List.of("-c", "-p"));
        try (Stream<Path> files = Files.list(folder)) {
            arguments.addAll(files.map(Path::toString).filter(f -> f.matches(".*CellarPrompter(\\$\\w+)?\\.class"))
                .sorted().collect(Collectors.toList()));
        }
        StringWriter out = new StringWriter();
        ToolProvider javap = ToolProvider.findFirst("javap").orElseThrow();
        int code = javap.run(new PrintWriter(out), new PrintWriter(System.out), arguments.toArray(new String[0]));
        Kit.due("javap", code, 0);
        return out.toString();
    }

    private static void read(String told) {
        String inClass = "";
        String inMethod = "";
        for (String row : told.split("\n")) {
            Matcher m = CLASS.matcher(row);
            if (m.find()) {
                inClass = m.group(1);
                FIELDS.put(inClass, 0);
                continue;
            }
            m = METHOD.matcher(row);
            if (m.find()) {
                inMethod = inClass + "." + (m.group(1).equals(inClass) ? "<init>" : m.group(1));
                CALLS.put(inMethod, CALLS.getOrDefault(inMethod, new TreeSet<>()));
                continue;
            }
            field(row, inClass);
            m = CALL.matcher(row);
            if (m.find() && !row.contains("static {}")) {
                called(inClass, inMethod, m.group(1).replace("\"", ""));
            }
        }
    }

    private static void called(String inClass, String inMethod, String name) {
        if (name.startsWith("java/") || name.startsWith("[")) {
            Kit.due("of the library: " + name, LIBRARY.contains(name), true);
        } else {
            CALLS.get(inMethod).add(name.contains(".") ? name : inClass + "." + name);
        }
    }

    /** Static ones are final, of numbers and texts; the others are counted. */
    private static void field(String row, String inClass) {
        Matcher m = FIELD.matcher(row);
        if (!m.find()) {
            return;
        }
        if (m.group(1).contains("static ")) {
            Kit.due("final: " + row, m.group(1).contains("final "), true);
            Kit.due("its type: " + row, Set.of("int", "int[]").contains(m.group(2)), true);
        } else {
            FIELDS.merge(inClass, 1, Integer::sum);
        }
    }

    /** The longest chain of calls from a method on; one that calls itself, by others too, makes it too long. */
    private static List<String> deepest(String method, List<String> open) {
        List<String> chain = new ArrayList<>(List.of(method));
        if (open.size() > 20) {
            return chain;
        }
        List<String> with = new ArrayList<>(open);
        with.add(method);
        List<String> best = List.of();
        for (String next : CALLS.getOrDefault(method, Set.of())) {
            List<String> further = deepest(next, with);
            best = further.size() > best.size() ? further : best;
        }
        chain.addAll(best);
        return chain;
    }
}

import java.io.IOException;
import java.lang.reflect.Method;
import java.lang.reflect.Modifier;
import java.net.URL;
import java.net.URLClassLoader;
import java.nio.file.Files;
import java.nio.file.Path;
import java.util.ArrayList;
import java.util.List;
import java.util.regex.Matcher;
import java.util.regex.Pattern;
import java.util.stream.Collectors;
import java.util.stream.Stream;
import javax.tools.JavaCompiler;
import javax.tools.ToolProvider;

/** README.md: its examples are compiled and run, and answer what stands behind them; it tells of all calls and tests. */
public final class ReadmeTest {
    private static final Pattern EXAMPLE = Pattern.compile("(.+\\));\\s+// (-?\\d+|true|false)(:.*)?");
    private static int examples = 0;

    public static void main(String[] args) throws Exception {
        Path root = Path.of(args.length > 0 ? args[0] : ".");
        String page = Files.readString(root.resolve("README.md"));
        runExamples(page);
        tellsOfAllCalls(page);
        tellsOfAllTests(page, root.resolve("src/test/java"));
        Kit.finish("ReadmeTest");
    }

    /** Called by the examples, which another loader loads: so it must be public. */
    public static void check(String example, long got, long due) {
        examples++;
        Kit.due("README.md: " + example, got, due);
    }

    public static void check(String example, boolean got, boolean due) {
        check(example, got ? 1 : 0, due ? 1 : 0);
    }

    private static void runExamples(String page) throws Exception {
        String source = source(page);
        Path folder = Files.createTempDirectory("readme");
        try {
            Path file = folder.resolve("Examples.java");
            Files.writeString(file, source);
            JavaCompiler compiler = ToolProvider.getSystemJavaCompiler();
            int code = compiler.run(null, null, null, "-cp", System.getProperty("java.class.path"), "-d",
                folder.toString(), file.toString());
            Kit.due("README.md's examples compile", code, 0);
            try (URLClassLoader loader = new URLClassLoader(new URL[] {folder.toUri().toURL()})) {
                loader.loadClass("Examples").getMethod("all").invoke(null);
            }
        } finally {
            remove(folder);
        }
        Kit.due("answers in README.md that were tried", examples, count(page, "; +// "));
        Kit.due("there are examples", examples > 50, true);
    }

    private static void remove(Path folder) throws IOException {
        try (Stream<Path> files = Files.list(folder)) {
            for (Path file : files.collect(Collectors.toList())) {
                Files.delete(file);
            }
        }
        Files.delete(folder);
    }

    /** A block that makes an object begins anew; the others go on with it; one that is a method is one. */
    private static String source(String page) {
        StringBuilder methods = new StringBuilder();
        List<StringBuilder> scopes = new ArrayList<>();
        Matcher blocks = Pattern.compile("(?s)```java\n(.*?)```").matcher(page);
        while (blocks.find()) {
            String block = blocks.group(1);
            if (block.startsWith("static ")) {
                methods.append(block);
                continue;
            }
            if (block.startsWith("CellarPrompter x = new")) {
                scopes.add(new StringBuilder());
            }
            for (String row : block.split("\n")) {
                scopes.get(scopes.size() - 1).append(checked(row)).append('\n');
            }
        }
        String bodies = scopes.stream().map(s -> "{" + s + "}\n").collect(Collectors.joining());
        return "public final class Examples {\npublic static void all() {\n" + bodies + "}\n" + methods + "}\n";
    }

    private static String checked(String row) {
        Matcher m = EXAMPLE.matcher(row);
        if (!m.matches()) {
            return row;
        }
        String told = m.group(1).replace("\\", "\\\\").replace("\"", "\\\"");
        return "ReadmeTest.check(\"" + told + "\", " + m.group(1) + ", " + m.group(2) + ");";
    }

    private static int count(String page, String pattern) {
        return (int) Pattern.compile(pattern).matcher(page).results().count();
    }

    private static void tellsOfAllCalls(String page) {
        for (Method m : CellarPrompter.class.getDeclaredMethods()) {
            if (Modifier.isPublic(m.getModifiers())) {
                Matcher row = Pattern.compile("(?m)^\\| `" + m.getName() + "\\(([^)]*)\\)` \\|").matcher(page);
                boolean there = row.find();
                Kit.due("README.md tells of " + m.getName(), there, true);
                Kit.due("its arguments", there ? row.group(1).split(", ").length : 0, m.getParameterCount());
                Kit.due("README.md shows " + m.getName(), page.contains("\nx." + m.getName() + "("), true);
            }
        }
    }

    private static void tellsOfAllTests(String page, Path folder) throws IOException {
        try (Stream<Path> files = Files.list(folder)) {
            for (Path file : files.collect(Collectors.toList())) {
                String name = file.getFileName().toString().replace(".java", "");
                if (name.endsWith("Test")) {
                    Kit.due("README.md tells of " + name, page.contains("\n| " + name + " |"), true);
                }
            }
        }
    }
}

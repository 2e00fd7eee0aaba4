import java.nio.charset.StandardCharsets;
import java.nio.file.Files;
import java.nio.file.Path;
import java.util.ArrayList;
import java.util.List;
import java.util.Set;
import java.util.TreeSet;
import java.util.regex.Matcher;
import java.util.regex.Pattern;

/** Those rules of LANGUAGE.md that a look at the source can tell. */
public final class LanguageTest {
    private static final Pattern METHOD = Pattern.compile(
        "^ {4,8}((?:public |private |static |final )*)(int|long|boolean|void|String|[A-Z]\\w*)(\\[\\])? (\\w+)\\(([^)]*)\\) \\{$");

    public static void main(String[] args) throws Exception {
        Path root = Path.of(args.length > 0 ? args[0] : ".");
        String source = Files.readString(root.resolve("src/main/java/CellarPrompter.java"), StandardCharsets.ISO_8859_1);
        String code = source.replaceAll("(?s)/\\*.*?\\*/", "").replaceAll("//[^\n]*", "");
        forbidden(code);
        methods(code);
        Kit.due("signs are ASCII", source.chars().allMatch(c -> c == 10 || c >= 32 && c < 127), true);
        Kit.due("at most twelve classes", count(code, "\\b(class|interface|enum|record) [A-Z]") <= 12, true);
        Kit.due("own static fields are final", count(code, "\\bstatic (?!final|class|boolean \\w+\\(|int \\w+\\(|long \\w+\\(|String \\w+\\()"), 0);
        Kit.finish("LanguageTest");
    }

    private static int count(String code, String pattern) {
        Matcher m = Pattern.compile(pattern).matcher(code);
        int found = 0;
        while (m.find()) {
            found++;
        }
        return found;
    }

    private static void forbidden(String code) {
        String[] patterns = {"\\bthrow", "\\btry\\b", "\\bcatch\\b", "\\bsynchronized\\b", "\\bassert\\b", "->", "::",
            "\\bimport\\b", "\\bpackage\\b", "\\bprotected\\b", "Exact\\b", "\\bdouble\\b", "\\bfloat\\b",
            "System\\.(?!arraycopy)", "\\bhashCode\\b", "\\btoString\\b", "\\bvolatile\\b", "\\bThread\\b", "static \\{"};
        for (String p : patterns) {
            Kit.due("in the source: " + p, count(code, p), 0);
        }
    }

    private static void methods(String code) {
        String[] rows = code.split("\n");
        Set<String> open = new TreeSet<>();
        List<String> own = new ArrayList<>();
        for (int i = 0; i < rows.length; i++) {
            Matcher m = METHOD.matcher(rows[i]);
            if (!m.find()) {
                continue;
            }
            String name = m.group(4);
            (m.group(1).contains("public") ? open : own).add(name);
            int parameters = m.group(5).isEmpty() ? 0 : m.group(5).split(",").length;
            Kit.due("parameters of " + name, parameters <= 7, true);
            int last = i;
            String closing = rows[i].replaceAll("\\S.*", "") + "}";
            while (last < rows.length && !rows[last].equals(closing)) {
                last++;
            }
            Kit.due("lines of " + name, last - i < 60, true);
        }
        Kit.due("public methods", open.size(), 32);
        for (String name : own) {
            Kit.due("a private method bears a public name: " + name, open.contains(name), false);
        }
    }
}

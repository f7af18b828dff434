import java.io.IOException;
import java.lang.reflect.Field;
import java.lang.reflect.Modifier;
import java.nio.file.Files;
import java.nio.file.Path;
import java.util.List;
import java.util.regex.Matcher;
import java.util.regex.Pattern;

/** The rules of LANGUAGE.md that a look at the source can tell. */
public final class RulesTest {
    private static final String[] NEVER = {"->", "::", "\\btry\\b", "\\bcatch\\b", "\\bfinally\\b", "\\bsynchronized\\b",
        "\\bassert\\b", "Exact\\(", "\\bprotected\\b", "\\binstanceof\\b", "\\bString\\[\\]", "\\bdouble\\b", "\\bfloat\\b",
        "\\bsuper\\b", "\\bextends\\b", "\\bnew String", "\\bInteger\\b", "\\bLong\\b", "\\bSystem\\.(?!arraycopy\\()",
        "\\bArrays\\.(?!fill\\()", "\\bMath\\.(?!(min|max|abs)\\()", "\\bpackage\\b", "static \\{", "\\bwhile \\(true\\)"};

    public static void main(String[] args) throws IOException {
        List<String> lines = Files.readAllLines(Path.of("src/main/java/PotHill.java"));
        int classes = 0;
        int start = -1;
        for (int k = 0; k < lines.size(); k++) {
            String line = lines.get(k);
            String code = line.replaceAll("\"[^\"]*\"", "\"\"").replaceAll("//.*|^\\s*/?\\*.*", "");
            for (String never : NEVER) {
                Matcher found = Pattern.compile(never).matcher(code);
                Check.due("line " + (k + 1) + " has " + never, found.find() ? 1 : 0, 0);
            }
            if (code.contains(" class ")) {
                classes++;
            } else if (code.matches(" {4,8}[a-zA-Z].*\\) ?(throws [A-Za-z, ]+)?\\{")) {
                start = k;
                Check.due("line " + (k + 1) + ": seven parameters at most", code.split(",").length <= 8 ? 1 : 0, 1);
            } else if (code.matches(" {4,8}\\}") && start >= 0) {
                Check.due("the method at line " + (start + 1) + " is short", k - start <= 60 ? 1 : 0, 1);
                start = -1;
            }
        }
        Check.due("classes: at most some twelve", classes <= 12 ? 1 : 0, 1);
        imports(lines);
        fields(PotHill.class);
        for (Class<?> inside : PotHill.class.getDeclaredClasses()) {
            Check.due(inside + " is static", Modifier.isStatic(inside.getModifiers()) ? 1 : 0, 1);
            fields(inside);
        }
        Check.end("RulesTest");
    }

    private static void imports(List<String> lines) {
        for (String line : lines) {
            if (line.startsWith("import ")) {
                boolean known = line.equals("import java.util.Arrays;")
                    || line.equals("import java.util.NoSuchElementException;");
                Check.due(line, known ? 1 : 0, 1);
            }
        }
    }

    /** Rule 5: what is static is final; rule 11: some twenty fields. */
    private static void fields(Class<?> one) {
        int own = 0;
        for (Field f : one.getDeclaredFields()) {
            boolean isStatic = Modifier.isStatic(f.getModifiers());
            Check.due(f + " is final, if static", !isStatic || Modifier.isFinal(f.getModifiers()) ? 1 : 0, 1);
            own += isStatic ? 0 : 1;
        }
        Check.due(one + " has some twenty fields at most", own <= 20 ? 1 : 0, 1);
    }
}

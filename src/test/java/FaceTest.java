import java.io.IOException;
import java.lang.reflect.Constructor;
import java.lang.reflect.Field;
import java.lang.reflect.Method;
import java.lang.reflect.Modifier;
import java.nio.file.Files;
import java.nio.file.Path;
import java.util.Arrays;
import java.util.Set;
import java.util.TreeSet;

/** The public face, and LANGUAGE.md's rule 1: nothing else of the class can be seen. */
public final class FaceTest {
    private static final String FACE = "boolean meets(int); int ahead(int,int); int baskets(int); int count(int);"
        + " int deep(int,int); int depth(int,int,int); int easiest(int); int fault(); int feed(int,int,int,int,int);"
        + " int feel(int); int fits(); int forge(int,int); int gets(int,int); int goats(int,int,int,int);"
        + " int has(int); int height(int); int hill(int); int holds(int,int); int image(); int lasts(int);"
        + " int law(int); int mean(int); int net(int); int order(); int owed(int,int); int pot(int,int);"
        + " int restore(); int ring(int); int safe(); int shard(int,int); int span(int,int,int,int,int,int);"
        + " int status(int); int struck(); int tell(); int thumb(int); int told(int); int tossed(int,int);"
        + " int undo(); int work(int); int would(int,int,int,int,int,int)";

    public static void main(String[] args) throws IOException {
        Set<String> want = new TreeSet<>(Arrays.asList(FACE.split("; ")));
        Set<String> got = new TreeSet<>();
        Set<String> faceNames = new TreeSet<>();
        for (Method m : PotHill.class.getDeclaredMethods()) {
            if (!Modifier.isPrivate(m.getModifiers())) {
                got.add(said(m));
                faceNames.add(m.getName());
            }
        }
        Check.due("the face is " + got + ", so it", got.equals(want) ? 1 : 0, 1);
        for (Method m : PotHill.class.getDeclaredMethods()) {
            boolean hides = Modifier.isPrivate(m.getModifiers()) && faceNames.contains(m.getName());
            Check.due("private " + m.getName() + " with a public one's name", hides ? 1 : 0, 0);
        }
        int visible = 0;
        for (Field f : PotHill.class.getDeclaredFields()) {
            visible += Modifier.isPrivate(f.getModifiers()) ? 0 : 1;
        }
        Check.due("fields that can be seen (NONE)", visible, 1);
        Constructor<?>[] made = PotHill.class.getDeclaredConstructors();
        Check.due("constructors", made.length, 1);
        Check.due("final", Modifier.isFinal(PotHill.class.getModifiers()) ? 1 : 0, 1);
        Check.due("NONE", PotHill.NONE, -1);
        asTheDocumentWritesIt();
        Check.end("FaceTest");
    }

    /** Each row of the document's face, with what it throws and in that order, is one of the class, and no other is. */
    private static void asTheDocumentWritesIt() throws IOException {
        String doc = Files.readString(Path.of("../shared/DOC.md"));
        Set<String> want = new TreeSet<>();
        for (String line : doc.substring(doc.indexOf("public final class PotHill"), doc.indexOf("## Terms")).split("\n")) {
            if (line.matches("    public (int|boolean) .*;")) {
                want.add(line.trim().replaceAll("\\b(int|boolean) [a-z]+(?=[,)])", "$1"));
            }
        }
        Set<String> got = new TreeSet<>();
        for (Method m : PotHill.class.getMethods()) {
            if (m.getDeclaringClass() == PotHill.class) {
                got.add(written(m));
            }
        }
        Check.due("rows of the document's face", want.size(), 40);
        for (String row : want) {
            Check.due(row, got.contains(row) ? 1 : 0, 1);
        }
        Check.due("public methods", got.size(), want.size());
    }

    private static String written(Method m) {
        StringBuilder row = new StringBuilder("public ").append(said(m).replace(",", ", "));
        String between = " throws ";
        for (Class<?> type : m.getExceptionTypes()) {
            row.append(between).append(type.getSimpleName());
            between = ", ";
        }
        return row.append(';').toString();
    }

    private static String said(Method m) {
        StringBuilder row = new StringBuilder();
        for (Class<?> type : m.getParameterTypes()) {
            row.append(row.length() == 0 ? "" : ",").append(type.getName());
        }
        return m.getReturnType().getName() + " " + m.getName() + "(" + row + ")";
    }
}

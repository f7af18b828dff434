import java.lang.reflect.Constructor;
import java.lang.reflect.Field;
import java.lang.reflect.Method;
import java.lang.reflect.Modifier;
import java.util.Arrays;
import java.util.Set;
import java.util.TreeSet;

/** The public face, and LANGUAGE.md's rule 1: nothing else of the class can be seen. */
public final class FaceTest {
    private static final String FACE = "boolean meets(int); int ahead(int,int); int baskets(int); int count(int);"
        + " int deep(int,int); int depth(int,int,int); int easiest(int); int fault(); int feed(int,int,int,int,int);"
        + " int feel(int); int fits(); int forge(int,int); int gets(int,int); int goats(int,int,int,int);"
        + " int has(int); int height(int); int hill(int); int holds(int,int); int image(); int lasts(int);"
        + " int law(int); int mean(int); int net(int); int order(); int owed(int,int); int pot(int,int);"
        + " int restore(); int ring(int); int safe(); int shard(int,int); int span(int,int,int,int,int,int);"
        + " int status(int); int struck(); int tell(); int thumb(int); int told(int); int tossed(int,int);"
        + " int undo(); int work(int); int would(int,int,int,int,int,int)";

    public static void main(String[] args) {
        Set<String> want = new TreeSet<>(Arrays.asList(FACE.split("; ")));
        Set<String> got = new TreeSet<>();
        Set<String> faceNames = new TreeSet<>();
        for (Method m : PotHill.class.getDeclaredMethods()) {
            if (!Modifier.isPrivate(m.getModifiers())) {
                got.add(said(m));
                faceNames.add(m.getName());
            }
        }
        Check.due("the face is " + got + ", so it", got.equals(want) ? 1 : 0, 1);
        for (Method m : PotHill.class.getDeclaredMethods()) {
            boolean hides = Modifier.isPrivate(m.getModifiers()) && faceNames.contains(m.getName());
            Check.due("private " + m.getName() + " with a public one's name", hides ? 1 : 0, 0);
        }
        int visible = 0;
        for (Field f : PotHill.class.getDeclaredFields()) {
            visible += Modifier.isPrivate(f.getModifiers()) ? 0 : 1;
        }
        Check.due("fields that can be seen (NONE)", visible, 1);
        Constructor<?>[] made = PotHill.class.getDeclaredConstructors();
        Check.due("constructors", made.length, 1);
        Check.due("final", Modifier.isFinal(PotHill.class.getModifiers()) ? 1 : 0, 1);
        Check.due("NONE", PotHill.NONE, -1);
        Check.end("FaceTest");
    }

    private static String said(Method m) {
        StringBuilder row = new StringBuilder();
        for (Class<?> type : m.getParameterTypes()) {
            row.append(row.length() == 0 ? "" : ",").append(type.getName());
        }
        return m.getReturnType().getName() + " " + m.getName() + "(" + row + ")";
    }
}

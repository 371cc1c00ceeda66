import java.lang.reflect.Constructor;
import java.lang.reflect.Field;
import java.lang.reflect.Method;
import java.lang.reflect.Modifier;
import java.util.Arrays;
import java.util.Set;
import java.util.TreeSet;

/** The public face is the document's, and nothing else can be seen from outside. */
public final class FaceTest {
    private static final String[] FACE = {"int chord()", "int tone(int, int, int)",
        "int tunes(int, int, int, int)", "int holds(int, int, int)", "int frees(int)", "int drops()",
        "int limit(int)", "int of(int, int, int)", "int root(int, int)", "int pitch(int, int, int)",
        "int tie(int, int)", "int loop(int, int, int)", "int part(int, int)", "int share(int)",
        "int set(int)", "int count(int)", "int interval(int, int, int, int)", "int order(int, int)",
        "int voice(int, int)", "int leap(int, int)", "int type(int)", "int clear()", "int does()",
        "int back()", "int told(int)", "long digest()"};

    private static final Due due = new Due();

    public static void main(String[] args) {
        Class<?> face = CommaChoir.class;
        due.is("public and final", face.getModifiers(), Modifier.PUBLIC | Modifier.FINAL);
        methods(face);
        fields(face);
        for (Constructor<?> made : face.getDeclaredConstructors()) {
            due.is(made.toString(), made.getModifiers(), Modifier.PUBLIC);
            due.is(made + " parameters", made.getParameterCount(), 0);
        }
        for (Class<?> inside : face.getDeclaredClasses()) {
            due.is(inside + " static", inside.getModifiers() & Modifier.STATIC, Modifier.STATIC);
            due.is(inside + " not public", inside.getModifiers() & (Modifier.PUBLIC | Modifier.PROTECTED), 0);
        }
        due.end();
    }

    private static void methods(Class<?> face) {
        Set<String> want = new TreeSet<>(Arrays.asList(FACE));
        Set<String> names = new TreeSet<>();
        for (String row : FACE) {
            names.add(row.substring(row.indexOf(' ') + 1, row.indexOf('(')));
        }
        Set<String> seen = new TreeSet<>();
        for (Method method : face.getDeclaredMethods()) {
            if (Modifier.isPublic(method.getModifiers())) {
                String types = Arrays.toString(method.getParameterTypes());
                seen.add(method.getReturnType() + " " + method.getName() + "("
                    + types.substring(1, types.length() - 1) + ")");
                due.is(method + " modifiers", method.getModifiers(), Modifier.PUBLIC);
            } else {
                due.is(method + " private", method.getModifiers() & Modifier.PRIVATE, Modifier.PRIVATE);
                due.is(method + " bears a public name", names.contains(method.getName()) ? 1 : 0, 0);
            }
        }
        due.is("methods " + seen, seen.equals(want) ? 1 : 0, 1);
    }

    private static void fields(Class<?> face) {
        Set<String> seen = new TreeSet<>();
        for (Field field : face.getDeclaredFields()) {
            if (Modifier.isPublic(field.getModifiers())) {
                seen.add(field.getName());
            } else {
                due.is(field + " private", field.getModifiers() & Modifier.PRIVATE, Modifier.PRIVATE);
            }
        }
        due.is("constants " + seen, seen.equals(Set.of("NONE", "BAD", "NO", "FULL")) ? 1 : 0, 1);
        due.is("NONE", CommaChoir.NONE, Due.NONE);
        due.is("BAD", CommaChoir.BAD, Due.BAD);
        due.is("NO", CommaChoir.NO, Due.NO);
        due.is("FULL", CommaChoir.FULL, Due.FULL);
    }
}

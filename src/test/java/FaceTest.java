import java.io.IOException;
import java.lang.reflect.Constructor;
import java.lang.reflect.Field;
import java.lang.reflect.Method;
import java.lang.reflect.Modifier;
import java.nio.file.Files;
import java.nio.file.Path;
import java.util.Arrays;
import java.util.Set;
import java.util.TreeSet;
import java.util.regex.Matcher;
import java.util.regex.Pattern;
import java.util.stream.Collectors;

/** The public face is the document's, and nothing else can be seen from outside. */
public final class FaceTest {
    private static final String[] FACE = {"int chord()", "int tone(int, int, int)",
        "int tunes(int, int, int, int)", "int holds(int, int, int)", "int frees(int)", "int drops()",
        "int limit(int)", "int of(int, int, int)", "int root(int, int)", "int pitch(int, int, int)",
        "int tie(int, int)", "int loop(int, int, int)", "int part(int, int)", "int share(int)",
        "int set(int)", "int count(int)", "int interval(int, int, int, int)", "int order(int, int)",
        "int voice(int, int)", "int leap(int, int)", "int type(int)", "int clear()", "int does()",
        "int back()", "int told(int)", "long digest()"};

    private static final Due due = new Due();

    public static void main(String[] args) throws IOException {
        Class<?> face = CommaChoir.class;
        due.is("public and final", face.getModifiers(), Modifier.PUBLIC | Modifier.FINAL);
        methods(face);
        fields(face);
        for (Constructor<?> made : face.getDeclaredConstructors()) {
            due.is(made.toString(), made.getModifiers(), Modifier.PUBLIC);
            due.is(made + " parameters", made.getParameterCount(), 0);
        }
        for (Class<?> inside : face.getDeclaredClasses()) {
            due.is(inside + " static", inside.getModifiers() & Modifier.STATIC, Modifier.STATIC);
            due.is(inside + " not public", inside.getModifiers() & (Modifier.PUBLIC | Modifier.PROTECTED), 0);
        }
        String source = Files.readString(Path.of(System.getProperty("choir.source", "src/main/java/CommaChoir.java")));
        String document = Files.readString(Path.of(System.getProperty("choir.document", "../shared/DOC.md")));
        written(source, document);
        groups(source, document);
        due.end();
    }

    /** Every row of the document's face stands in the source, word by word. */
    private static void written(String source, String document) {
        Matcher row = Pattern.compile("(?m)^ +(public .*\\));$").matcher(document);
        int rows = 0;
        while (row.find()) {
            rows++;
            due.is("written so: " + row.group(1), source.contains("\n    " + row.group(1) + " {\n") ? 1 : 0, 1);
        }
        due.is("calls of the face, with its constructor", rows, FACE.length + 1);
    }

    /** The calls stand in the document's groups, each behind the words that the interface says. */
    private static void groups(String source, String document) {
        Matcher group = Pattern.compile("Ahead of the calls (.*?) the interface says: (---- \\w+)\\.").matcher(document);
        int groups = 0;
        while (group.find()) {
            groups++;
            String want = group.group(1).replace("`", "");
            String got = callsBehind(source, "// " + group.group(2) + "\n");
            due.is(group.group(2) + ": " + got, got.equals(want) ? 1 : 0, 1);
        }
        due.is("groups", groups, 5);
    }

    private static String callsBehind(String source, String words) {
        String[] parts = source.split(Pattern.quote(words), 2);
        String group = parts.length < 2 ? "" : parts[1].split("// ----", 2)[0];
        return Pattern.compile("(?m)^    public \\w+ (\\w+)\\(").matcher(group).results()
            .map(found -> found.group(1)).collect(Collectors.joining(", "));
    }

    private static void methods(Class<?> face) {
        Set<String> want = new TreeSet<>(Arrays.asList(FACE));
        Set<String> names = new TreeSet<>();
        for (String row : FACE) {
            names.add(row.substring(row.indexOf(' ') + 1, row.indexOf('(')));
        }
        Set<String> seen = new TreeSet<>();
        for (Method method : face.getDeclaredMethods()) {
            if (Modifier.isPublic(method.getModifiers())) {
                String types = Arrays.toString(method.getParameterTypes());
                seen.add(method.getReturnType() + " " + method.getName() + "("
                    + types.substring(1, types.length() - 1) + ")");
                due.is(method + " modifiers", method.getModifiers(), Modifier.PUBLIC);
            } else {
                due.is(method + " private", method.getModifiers() & Modifier.PRIVATE, Modifier.PRIVATE);
                due.is(method + " bears a public name", names.contains(method.getName()) ? 1 : 0, 0);
            }
        }
        due.is("methods " + seen, seen.equals(want) ? 1 : 0, 1);
    }

    private static void fields(Class<?> face) {
        Set<String> seen = new TreeSet<>();
        for (Field field : face.getDeclaredFields()) {
            if (Modifier.isPublic(field.getModifiers())) {
                seen.add(field.getName());
            } else {
                due.is(field + " private", field.getModifiers() & Modifier.PRIVATE, Modifier.PRIVATE);
            }
        }
        due.is("constants " + seen, seen.equals(Set.of("NONE", "BAD", "NO", "FULL")) ? 1 : 0, 1);
        due.is("NONE", CommaChoir.NONE, Due.NONE);
        due.is("BAD", CommaChoir.BAD, Due.BAD);
        due.is("NO", CommaChoir.NO, Due.NO);
        due.is("FULL", CommaChoir.FULL, Due.FULL);
    }
}

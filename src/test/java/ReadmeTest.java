import java.io.IOException;
import java.lang.reflect.Method;
import java.nio.file.Files;
import java.nio.file.Path;
import java.util.Arrays;
import java.util.Map;
import java.util.TreeMap;
import java.util.TreeSet;
import java.util.regex.Matcher;
import java.util.regex.Pattern;
import java.util.stream.Collectors;
import java.util.stream.Stream;

/** README.md tells the truth: its examples answer as it says, its tables hold every call and test. */
public final class ReadmeTest {
    private static final Pattern BLOCK = Pattern.compile("(?s)```java\n(.*?)```");
    private static final Pattern CALL = Pattern.compile("x\\.(\\w+)\\((.*?)\\);\\s*// (-?\\d+|[A-Z]+)(: .*)?");
    private static final Pattern TYPED = Pattern.compile(
        "for \\(char b : \"(.*)\"\\.toCharArray\\(\\)\\) x\\.type\\(b\\);");
    // "BAD (0)" tells which answer counts them, not that the call is refused
    private static final Pattern REFUSAL = Pattern.compile("\\b(BAD|NO|FULL)\\b(?! \\()");
    private static final Pattern PROMISE = Pattern.compile("(?m)^`(?:int|long) (\\w+)\\((.*?)\\)`: (.*)$");
    private static final Pattern ROW_OF_CALL = Pattern.compile("(?m)^\\| `(\\w+\\(.*?\\))` \\|.*\\|(.*)\\|$");
    private static final Pattern ROW_OF_TEST = Pattern.compile("(?m)^\\| (\\w+Test) \\|");

    private static final Due due = new Due();

    public static void main(String[] args) throws Exception {
        String readme = Files.readString(Path.of("README.md"));
        String document = Files.readString(Path.of(System.getProperty("choir.document", "../shared/DOC.md")));
        examples(readme);
        same("calls and what they refuse", callsOf(readme), promised(document));
        same("tests", testsOf(readme), testsThatStand());
        due.end();
    }

    private static void examples(String readme) throws Exception {
        Matcher block = BLOCK.matcher(readme);
        int blocks = 0;
        while (block.find()) {
            blocks++;
            example(block.group(1).split("\n"));
        }
        due.is("some examples stand there", blocks > 0 ? 1 : 0, 1);
    }

    private static void example(String[] rows) throws Exception {
        CommaChoir x = new CommaChoir();
        due.is("an example begins with a new object: " + rows[0],
            rows[0].equals("CommaChoir x = new CommaChoir();") ? 1 : 0, 1);
        for (int i = 1; i < rows.length; i++) {
            Matcher typed = TYPED.matcher(rows[i]);
            Matcher call = CALL.matcher(rows[i]);
            if (typed.matches()) {
                typed.group(1).chars().forEach(x::type);
            } else if (call.matches()) {
                due.is(rows[i], answer(x, call.group(1), call.group(2)), value(call.group(3)));
            } else {
                due.is("a row that can be tried: " + rows[i], 0, 1);
            }
        }
    }

    private static long answer(CommaChoir x, String name, String list) throws Exception {
        Object[] numbers = Stream.of(list.split(", ")).filter(word -> !word.isEmpty())
            .map(word -> word.startsWith("'") ? (int) word.charAt(1) : Integer.parseInt(word)).toArray();
        Class<?>[] kinds = new Class<?>[numbers.length];
        Arrays.fill(kinds, int.class);
        Method method = CommaChoir.class.getMethod(name, kinds);
        return ((Number) method.invoke(x, numbers)).longValue();
    }

    private static long value(String word) throws Exception {
        return Character.isLetter(word.charAt(0)) ? CommaChoir.class.getField(word).getInt(null) : Long.parseLong(word);
    }

    /** Each call as it is written in the tables, with what it refuses. */
    private static Map<String, String> callsOf(String readme) {
        Map<String, String> calls = new TreeMap<>();
        Matcher row = ROW_OF_CALL.matcher(readme.substring(readme.indexOf("### All calls")));
        while (row.find()) {
            calls.put(row.group(1), refusals(row.group(2)));
        }
        return calls;
    }

    private static Map<String, String> promised(String document) {
        Map<String, String> calls = new TreeMap<>();
        Matcher promise = PROMISE.matcher(document);
        while (promise.find()) {
            String call = promise.group(1) + "(" + promise.group(2).replace("int ", "") + ")";
            calls.put(call, refusals(promise.group(3)));
        }
        return calls;
    }

    private static String refusals(String words) {
        return REFUSAL.matcher(words).results().map(found -> found.group()).distinct().collect(Collectors.joining(", "));
    }

    private static Map<String, String> testsOf(String readme) {
        Map<String, String> tests = new TreeMap<>();
        Matcher row = ROW_OF_TEST.matcher(readme);
        while (row.find()) {
            tests.put(row.group(1), "");
        }
        return tests;
    }

    private static Map<String, String> testsThatStand() throws IOException {
        Map<String, String> tests = new TreeMap<>();
        try (Stream<Path> files = Files.list(Path.of("src/test/java"))) {
            files.map(file -> file.getFileName().toString()).filter(name -> name.endsWith("Test.java"))
                .forEach(name -> tests.put(name.replace(".java", ""), ""));
        }
        return tests;
    }

    private static void same(String about, Map<String, String> told, Map<String, String> stand) {
        due.is("how many " + about, told.size(), stand.size());
        due.is("some " + about, stand.isEmpty() ? 0 : 1, 1);
        TreeSet<String> names = new TreeSet<>(told.keySet());
        names.addAll(stand.keySet());
        for (String name : names) {
            String here = told.get(name);
            String there = stand.get(name);
            due.is(about + ": " + name + ", README.md has " + here + ", it should have " + there,
                here != null && here.equals(there) ? 1 : 0, 1);
        }
    }
}

import java.io.IOException;
import java.nio.file.Files;
import java.nio.file.Path;
import java.util.LinkedHashMap;
import java.util.Map;
import java.util.regex.Matcher;
import java.util.regex.Pattern;

/** The document's text by headings, and which of its words the tests of boundary cases have quoted. */
final class Document {
    // words by which the document names a boundary case
    private static final Pattern EDGE = Pattern.compile("\\b(BAD|NO|FULL|NONE|S)\\b|at most|never more|at first"
        + "|of two alike|like ones|fewer|\\bnone\\b|nothing|empty|too early|lost|refused|\\.\\.|m 0|below 0|cut;|left over"
        + "|\\(not 0\\)|begins a|lowest|without|also if|\\b(0|1) to\\b|-\\d");

    private final Map<String, String> texts = new LinkedHashMap<>();
    private final Map<String, boolean[]> quoted = new LinkedHashMap<>();

    Document(Path path) throws IOException {
        for (String section : Files.readString(path).split("(?m)^## ")) {
            String[] parts = section.split("\n", 2);
            if (parts.length == 2) {
                String heading = parts[0].replaceAll(":.*", "").trim();
                String text = parts[1].replaceAll("\\s+", " ").trim();
                texts.put(heading, text);
                quoted.put(heading, new boolean[text.length()]);
            }
        }
    }

    /** Marks the words as quoted; false, if they don't stand under that heading. */
    boolean marks(String heading, String words) {
        String text = texts.getOrDefault(heading, "");
        int found = text.indexOf(words);
        for (int start = found; start >= 0; start = text.indexOf(words, start + 1)) {
            for (int i = 0; i < words.length(); i++) {
                quoted.get(heading)[start + i] = true;
            }
        }
        return found >= 0;
    }

    int promises() {
        return (int) texts.keySet().stream().filter(heading -> heading.startsWith("Promise ")).count();
    }

    /** How many promises have not a word quoted. */
    int promisesWithoutTest() {
        int without = 0;
        for (Map.Entry<String, boolean[]> entry : quoted.entrySet()) {
            boolean any = false;
            for (boolean mark : entry.getValue()) {
                any |= mark;
            }
            if (entry.getKey().startsWith("Promise ") && !any) {
                System.out.println("no boundary case of " + entry.getKey());
                without++;
            }
        }
        return without;
    }

    /** How many words that name a boundary case have no test; each is printed. */
    int untested() {
        int untested = 0;
        for (Map.Entry<String, String> entry : texts.entrySet()) {
            boolean binds = entry.getKey().startsWith("Promise ") || entry.getKey().equals("Terms");
            Matcher edge = EDGE.matcher(entry.getValue());
            while (binds && edge.find()) {
                if (!quoted.get(entry.getKey())[edge.start()]) {
                    int end = Math.min(entry.getValue().length(), edge.end() + 30);
                    System.out.println("no test of " + entry.getKey() + ": .. "
                        + entry.getValue().substring(Math.max(0, edge.start() - 30), end));
                    untested++;
                }
            }
        }
        return untested;
    }
}

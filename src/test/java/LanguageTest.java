import java.io.IOException;
import java.nio.file.Files;
import java.nio.file.Path;
import java.util.List;
import java.util.regex.Matcher;
import java.util.regex.Pattern;

/** Rules of LANGUAGE.md that can be seen in the words of the source. */
public final class LanguageTest {
    private static final int MOST_LINES = 60;
    private static final int MOST_PARAMETERS = 7;
    private static final String[] UNWANTED = {"\\bthrow\\b", "\\bthrows\\b", "\\btry\\b", "\\bcatch\\b",
        "\\bsynchronized\\b", "\\bassert\\b", "\\bpackage\\b", "\\bimport\\b", "->", "::", "\\bstatic\\s*\\{",
        "Exact\\b", "\\bThread\\b", "\\bRandom\\b", "System\\.(?!arraycopy\\b)", "Math\\.random", "\\bNaN\\b"};

    private static final Due due = new Due();

    public static void main(String[] args) throws IOException {
        Path path = Path.of(System.getProperty("choir.source", "src/main/java/CommaChoir.java"));
        String source = Files.readString(path).replaceAll("(?s)/\\*.*?\\*/", " ")
            .replaceAll("//[^\n]*", "");
        for (String unwanted : UNWANTED) {
            due.is("rules 4, 6, 13: " + unwanted, Pattern.compile(unwanted).matcher(source).find() ? 1 : 0, 0);
        }
        methodLengths(source);
        staticFields(source);
        objectsAreMadeByConstructors(source);
        due.end();
    }

    private static void methodLengths(String source) {
        List<String> lines = source.lines().toList();
        Pattern head = Pattern.compile("^( +)(?:public |private |static )*[\\w\\[\\]]+ ?\\w*\\(([^)]*)\\) \\{$");
        int found = 0;
        for (int start = 0; start < lines.size(); start++) {
            Matcher match = head.matcher(lines.get(start));
            if (!match.matches() || match.group(0).trim().matches("(if|for|while|switch|else).*")) {
                continue;
            }
            found++;
            int end = start;
            while (!lines.get(end).equals(match.group(1) + "}")) {
                end++;
            }
            due.is("rule 11: lines of " + match.group(0).trim(), end - start + 1 <= MOST_LINES ? 1 : 0, 1);
            int parameters = match.group(2).isEmpty() ? 0 : match.group(2).split(",").length;
            due.is("rule 11: parameters of " + match.group(0).trim(), parameters <= MOST_PARAMETERS ? 1 : 0, 1);
        }
        due.is("methods were found", found > 26 ? 1 : 0, 1);
    }

    private static void staticFields(String source) {
        for (String line : source.lines().toList()) {
            boolean field = line.contains("static ") && line.trim().endsWith(";");
            due.is("rule 5: " + line.trim(), field && !line.contains("static final ") ? 1 : 0, 0);
        }
    }

    /** All that is made is made once for each choir, so no run of calls can fill its room. */
    private static void objectsAreMadeByConstructors(String source) {
        boolean inConstructor = false;
        for (String line : source.lines().toList()) {
            if (line.matches(" +(public )?[A-Z]\\w*\\(\\) \\{")) {
                inConstructor = true;
            } else if (line.isBlank()) {
                inConstructor = false;
            }
            due.is("rule 12: " + line.trim(), line.matches(".*\\bnew\\b.*") && !inConstructor ? 1 : 0, 0);
        }
    }
}

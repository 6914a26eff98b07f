import java.io.IOException;
import java.nio.file.Files;
import java.nio.file.Path;
import java.util.List;
import java.util.regex.Matcher;
import java.util.regex.Pattern;

/** Rules of LANGUAGE.md that can be seen in the text of the one file. */
public final class LanguageTest {
    private static final List<String> FORBIDDEN = List.of(
        "throw", "throws", "try", "catch", "synchronized", "assert", "package", "protected", "volatile", "native");
    private static final int MOST_LINES = 60;
    private static final int MOST_PARAMETERS = 7;

    public static void main(String[] args) throws IOException {
        String text = Files.readString(Path.of("src/main/java/MateArbiter.java"));
        String code = text.replaceAll("(?s)/\\*.*?\\*/", "").replaceAll("//[^\n]*", "");
        words(code);
        imports(code);
        objects(code);
        methods(text);
        Due.finish();
    }

    private static int count(String regex, String code) {
        return (int) Pattern.compile(regex).matcher(code).results().count();
    }

    private static void words(String code) {
        for (String word : FORBIDDEN) {
            Due.due("rules 1, 3 and 6: " + word, count("\\b" + word + "\\b", code), 0);
        }
        Due.due("rule 2: lambdas and method references", count("->|::", code), 0);
        Due.due("rule 5: static blocks", count("\\bstatic\\s*\\{", code), 0);
        Due.due("rule 7: divisors that are no constants", count("[/%]\\s*[a-z(]", code), 0);
        Due.due("rule 10: loops without a condition", count("for \\(;;\\)|while \\(true\\)|; ;", code), 0);
        Due.due("rule 13: the outer world", count("System\\.(?!arraycopy)|Thread|Random|java\\.io", code), 0);
    }

    private static void imports(String code) {
        Due.due("rule 4: imports", count("\\bimport\\b", code), count("\\bimport java\\.util\\.Arrays;", code));
        Due.due("rule 1: public classes", count("\\bpublic (final )?class\\b", code), 1);
    }

    // All that an object needs is made with it, so no run of calls can fill the room.
    private static void objects(String code) {
        int kept = count("(?m)^\\s+(private )?final [\\w\\[\\]]+ \\w+ = new [^;]*;$", code);
        Due.due("rule 12: made with the object", count("\\bnew\\b", code), kept);
    }

    private static void methods(String text) {
        Pattern head = Pattern.compile("^( +)(?:(?:public|private|static) )*[\\w\\[\\]]+ \\w+\\((.*)\\) \\{$");
        String[] lines = text.split("\n");
        int seen = 0;
        for (int i = 0; i < lines.length; i++) {
            Matcher matcher = head.matcher(lines[i]);
            if (matcher.matches() && !lines[i].contains("else")) {
                seen++;
                int last = i;
                while (!lines[last].equals(matcher.group(1) + "}")) {
                    last++;
                }
                Due.due("rule 11: short, " + lines[i].trim(), last - i < MOST_LINES, true);
                int parameters = matcher.group(2).isEmpty() ? 0 : matcher.group(2).split(",").length;
                Due.due("rule 11: parameters, " + lines[i].trim(), parameters <= MOST_PARAMETERS, true);
            }
        }
        Due.due("methods found", seen > 50, true);
    }
}

import java.io.IOException;
import java.lang.reflect.Field;
import java.lang.reflect.Method;
import java.lang.reflect.Modifier;
import java.nio.file.Files;
import java.nio.file.Path;
import java.util.Arrays;
import java.util.regex.Matcher;
import java.util.regex.Pattern;
import java.util.stream.Stream;

/** README.md and SENTENCES.md tell the truth: calls answer what stands behind them, tables are whole. */
public final class ReadmeTest {
    private static final Pattern CALL =
        Pattern.compile("game\\.(\\w+)\\(([-\\d, ]*)\\);(?: +// (true|false|-?\\d+): (?:([A-Z]+)\\b)?.*)?");
    private static final String NEW = "MateArbiter game = new MateArbiter();";

    public static void main(String[] args) throws IOException, ReflectiveOperationException {
        String text = Files.readString(Path.of("README.md"));
        calls(text);
        codes(text);
        methods(text);
        tests(text);
        sentences(Files.readString(Path.of("src/test/SENTENCES.md")));
        Due.finish();
    }

    private static void calls(String text) throws ReflectiveOperationException {
        Matcher block = Pattern.compile("(?s)```java\n(.*?)```").matcher(text);
        int asked = 0;
        while (block.find()) {
            MateArbiter game = null;
            for (String line : block.group(1).split("\n")) {
                if (line.equals(NEW)) {
                    game = new MateArbiter();
                } else {
                    call(game, line);
                    asked++;
                }
            }
        }
        Due.due("calls were found", asked > 30, true);
    }

    private static void call(MateArbiter game, String line) throws ReflectiveOperationException {
        Matcher parts = CALL.matcher(line);
        Due.due("a call and its answer: " + line, parts.matches(), true);
        String[] texts = parts.group(2).isEmpty() ? new String[0] : parts.group(2).split(", ");
        Class<?>[] types = new Class<?>[texts.length];
        Arrays.fill(types, int.class);
        Method method = MateArbiter.class.getMethod(parts.group(1), types);
        Object got = method.invoke(game, Stream.of(texts).map(Integer::valueOf).toArray());
        String want = String.valueOf(parts.group(3));
        Due.due(line + " answers " + got, want.equals(String.valueOf(got)), true);
        if (parts.group(4) != null) {
            Due.due(line, MateArbiter.class.getField(parts.group(4)).getInt(null), Long.parseLong(want));
        }
    }

    private static void codes(String text) throws ReflectiveOperationException {
        for (Field field : MateArbiter.class.getFields()) {
            String row = "| `" + field.getName() + "` | " + field.getInt(null) + " |";
            Due.due("the row " + row, text.contains(row), true);
        }
    }

    private static void methods(String text) {
        for (Method method : MateArbiter.class.getDeclaredMethods()) {
            if (Modifier.isPublic(method.getModifiers())) {
                Due.due("a row for " + method.getName(), text.contains("\n| `" + method.getName() + "("), true);
            }
        }
    }

    private static void sentences(String text) {
        Matcher name = Pattern.compile("`(\\w+Test)(?:\\.(\\w+))?`").matcher(text);
        int seen = 0;
        while (name.find()) {
            seen++;
            Due.due("there is " + name.group(), isThere(name.group(1), name.group(2)), true);
        }
        Due.due("tests are named", seen > 100, true);
    }

    private static boolean isThere(String test, String method) {
        try {
            Method[] methods = Class.forName(test).getDeclaredMethods();
            return method == null || Stream.of(methods).anyMatch(m -> m.getName().equals(method));
        } catch (ClassNotFoundException e) {
            return false;
        }
    }

    private static void tests(String text) throws IOException {
        try (Stream<Path> files = Files.list(Path.of("src/test/java"))) {
            files.map(file -> file.getFileName().toString()).filter(name -> name.endsWith("Test.java")).forEach(name -> {
                String row = "\n| `" + name.replace(".java", "") + "` |";
                Due.due("a row for " + name, text.contains(row), true);
            });
        }
    }
}

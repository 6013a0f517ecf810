import java.io.IOException;
import java.lang.reflect.Method;
import java.lang.reflect.Modifier;
import java.nio.charset.StandardCharsets;
import java.nio.file.Files;
import java.nio.file.Path;
import java.util.Arrays;
import java.util.List;
import java.util.regex.Matcher;
import java.util.regex.Pattern;
import java.util.stream.Stream;

/** What README.md says: its example call by call, its letters, numbers and names; run from the project's folder. */
public final class ReadmeTest {
    private static final Pattern CALL = Pattern.compile("x\\.(\\w+)\\(([-0-9, ]*)\\); +// (-?\\d+)\\b.*");
    /** Those lines of the example that make the object and write the text, which the test does itself. */
    private static final List<String> WRITING = List.of("LawRigging x = new LawRigging();",
        "x.text(0, signs.length());", "for (int i = 0; i < signs.length(); i++) {",
        "x.put(0, i, signs.charAt(i));", "}");
    private static final Pattern SIGNS = Pattern.compile("String signs = \"([^\"]*)\";");
    private static int wrong = 0;

    public static void main(String[] args) throws IOException, ReflectiveOperationException {
        String page = Files.readString(Path.of("README.md"), StandardCharsets.UTF_8);
        example(page);
        letters(page);
        constants(page);
        names(page);
        System.out.println(wrong == 0 ? "ReadmeTest: all as told" : "ReadmeTest: " + wrong + " wrong");
        if (wrong != 0) {
            System.exit(1);
        }
    }

    private static void must(boolean holds, String what) {
        if (!holds) {
            wrong++;
            System.out.println("not so: " + what);
        }
    }

    private static LawRigging courtless(String signs) {
        LawRigging x = new LawRigging();
        x.text(0, signs.length());
        for (int i = 0; i < signs.length(); i++) {
            x.put(0, i, signs.charAt(i));
        }
        return x;
    }

    private static void example(String page) throws ReflectiveOperationException {
        Matcher block = Pattern.compile("(?s)```java\n(.*?)```").matcher(page);
        must(block.find(), "there is an example");
        LawRigging x = null;
        int calls = 0;
        for (String line : block.group(1).split("\n")) {
            Matcher signs = SIGNS.matcher(line.trim());
            Matcher call = CALL.matcher(line.trim());
            if (signs.matches()) {
                x = courtless(signs.group(1));
            } else if (call.matches() && x != null) {
                calls++;
                long answer = answer(x, call.group(1), call.group(2));
                must(answer == Long.parseLong(call.group(3)), line.trim() + " (it answered " + answer + ")");
            } else {
                must(WRITING.contains(line.trim()), "a line of the example is understood: " + line);
            }
        }
        must(calls > 10, "the example makes calls");
    }

    private static long answer(LawRigging x, String name, String numbers) throws ReflectiveOperationException {
        Object[] values = Stream.of(numbers.split(", *")).filter(n -> !n.isEmpty()).map(Integer::valueOf).toArray();
        for (Method method : LawRigging.class.getDeclaredMethods()) {
            if (method.getName().equals(name) && method.getParameterCount() == values.length) {
                return ((Number) method.invoke(x, values)).longValue();
            }
        }
        throw new NoSuchMethodException(name + Arrays.toString(values));
    }

    /** The table's letters and kinds, and what a rope of each passes of 8 and holds of a strength of 9. */
    private static void letters(String page) {
        Matcher row = Pattern.compile("(?m)^\\| `([a-z])` \\| (\\d) [^|]*\\| ([^|]*) \\| ([^|]*)\\|$").matcher(page);
        int rows = 0;
        while (row.find()) {
            rows++;
            LawRigging x = courtless("h1" + row.group(1) + "900a0000");
            must(x.fault(0) == LawRigging.NONE && x.court(0) == 1, "a letter: " + row.group());
            x.rope(0, 0);
            must(x.asked() == Integer.parseInt(row.group(2)), "its kind: " + row.group());
            must(x.passes(0, 8) == passedOfEight(row.group(3)), "what it passes: " + row.group());
            x.rope(0, 1);
            must(x.asked() == (row.group(4).contains("1 less") ? 8 : 9), "what it holds: " + row.group());
            x.haul(0, 2);
            must(x.count(7) == (row.group(4).contains("frost adds nothing") ? 2 : 3), "in frost: " + row.group());
        }
        must(rows == 6, "six letters in the table");
    }

    private static int passedOfEight(String words) {
        switch (words) {
            case "nothing": return 0;
            case "n": return 8;
            case "n less 1, 0 at least": return 7;
            case "half of n, cut": return 4;
            case "half of what a running one does, cut": return 3;
            default: return -1;
        }
    }

    private static void constants(String page) throws ReflectiveOperationException {
        Matcher row = Pattern.compile("(?m)^\\| `([A-Z]+)` (-\\d) \\|").matcher(page);
        int rows = 0;
        while (row.find()) {
            rows++;
            int value = LawRigging.class.getField(row.group(1)).getInt(null);
            must(value == Integer.parseInt(row.group(2)), "the number of " + row.group(1));
        }
        must(rows == 6, "six constants in the table");
    }

    private static void names(String page) throws IOException {
        for (Method method : LawRigging.class.getDeclaredMethods()) {
            if (Modifier.isPublic(method.getModifiers())) {
                must(page.contains("`" + method.getName() + "`"), method.getName() + " is named");
            }
        }
        try (Stream<Path> tests = Files.list(Path.of("src/test/java"))) {
            tests.forEach(test -> must(page.contains("`" + test + "`"), test + " is named"));
        }
    }
}

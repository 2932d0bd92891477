import java.lang.reflect.Method;
import java.nio.file.Files;
import java.nio.file.Path;
import java.util.List;
import java.util.regex.Matcher;
import java.util.regex.Pattern;

/** README.md tells each call with its arguments, each refusal's number and how the tests are run. */
public final class ReadmeTest {
    private static final Checks CHECKS = new Checks("ReadmeTest");
    private static final Pattern CALL = Pattern.compile("green\\.(\\w+)\\(([-0-9, ]*)\\);\\s+// (-?\\d+)(?:$|[:,;].*)");
    private static final Pattern WORDS = Pattern.compile("String words = \"(.*)\";");

    private static ThreeBalls green = null;
    private static String words = "";

    public static void main(String[] args) throws Exception {
        String readme = Files.readString(Path.of("README.md"));
        calls(readme);
        numbers(readme);
        int examples = 0;
        boolean inside = false;
        for (String line : readme.split("\n")) {
            if (line.startsWith("```")) {
                inside = line.equals("```java");
            } else if (inside && example(line.trim())) {
                examples++;
            }
        }
        CHECKS.holds("there are examples: " + examples, examples >= 10);
        CHECKS.end();
    }

    /** Each public method has a row of a table, with the arguments by their names in the class. */
    private static void calls(String readme) throws Exception {
        String source = Files.readString(Path.of("src/main/java/ThreeBalls.java"));
        Matcher m = Pattern.compile("\n    public (?:int|long) (\\w+)\\(([^)]*)\\) \\{").matcher(source);
        int found = 0;
        while (m.find()) {
            found++;
            String call = m.group(1) + "(" + m.group(2).replaceAll("(int|long) ", "") + ")";
            Matcher row = Pattern.compile("\n\\| `" + Pattern.quote(call) + "` \\| [^|]{10,} \\|[^|]*\\|\n").matcher(readme);
            CHECKS.holds("README.md has a row for " + call, row.find());
        }
        CHECKS.due("calls of the class", found, 32);
    }

    private static void numbers(String readme) {
        String[] told = {
            "`BAD` " + ThreeBalls.BAD, "`FULL` " + ThreeBalls.FULL, "`STATE` " + ThreeBalls.STATE,
            "`NONE` " + ThreeBalls.NONE, "`NO` " + ThreeBalls.NO, "| -5 |", "-11, -12, -13, -14",
            "512 calls", "../shared/DOC.md", "../shared/LANGUAGE.md", "    sh .ci/run\n",
        };
        for (String t : told) {
            CHECKS.holds("README.md tells " + t.trim(), readme.contains(t));
        }
    }

    /** Whether a line was an example with an answer, which is then held against the class. */
    private static boolean example(String line) throws Exception {
        Matcher text = WORDS.matcher(line);
        Matcher call = CALL.matcher(line);
        if (line.equals("ThreeBalls green = new ThreeBalls();")) {
            green = new ThreeBalls();
        } else if (text.matches()) {
            words = text.group(1);
        } else if (line.equals("green.feed(1, words.charAt(i));")) {
            Checks.feed(green, words);
        } else if (call.matches()) {
            CHECKS.due("README.md: " + line, answer(call.group(1), call.group(2)), Long.parseLong(call.group(3)));
            return true;
        } else {
            List<String> around = List.of("for (int i = 0; i < words.length(); i++) {", "}");
            CHECKS.holds("a line that can be held against the class: " + line, around.contains(line));
        }
        return false;
    }

    private static long answer(String name, String numbers) throws Exception {
        String[] given = numbers.isEmpty() ? new String[0] : numbers.split(", ");
        for (Method m : ThreeBalls.class.getMethods()) {
            if (!m.getName().equals(name) || m.getParameterCount() != given.length) {
                continue;
            }
            Object[] values = new Object[given.length];
            for (int k = 0; k < given.length; k++) {
                boolean isLong = m.getParameterTypes()[k] == long.class;
                values[k] = isLong ? (Object) Long.parseLong(given[k]) : (Object) Integer.parseInt(given[k]);
            }
            return ((Number) m.invoke(green, values)).longValue();
        }
        CHECKS.holds("the class has " + name + " with " + given.length + " numbers", false);
        return 0;
    }
}

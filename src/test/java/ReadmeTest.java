import java.io.IOException;
import java.lang.reflect.Field;
import java.lang.reflect.Method;
import java.lang.reflect.Modifier;
import java.nio.file.Files;
import java.nio.file.Path;
import java.util.regex.Matcher;
import java.util.regex.Pattern;

/** What README.md says holds: its example answers as it tells, it names every call, and its tests are there. */
final class ReadmeTest {
    private static final Pattern FED = Pattern.compile("feed\\(x, \"([^\"]*)\"\\);");
    private static final Pattern ASKED = Pattern.compile("x\\.(\\w+)\\(([-0-9, ]*)\\);\\s+// (-?\\d+|[A-Z]+)\\b.*");

    public static void main(String[] args) throws ReflectiveOperationException, IOException {
        String readme = Files.readString(Path.of("README.md"));
        example(readme);
        names(readme);
        tests(readme);
        Check.end();
    }

    /** Every line of the block that makes an object is run: one that can't be read is told as wrong. */
    private static void example(String readme) throws ReflectiveOperationException {
        String making = "SidelessTown x = new SidelessTown();\n";
        int from = readme.indexOf(making);
        Check.holds("README.md has an example", from >= 0);
        String[] lines = readme.substring(from + making.length(), readme.indexOf("```", from)).split("\n");
        SidelessTown x = new SidelessTown();
        int calls = 0;
        for (String line : lines) {
            Matcher fed = FED.matcher(line);
            Matcher asked = ASKED.matcher(line);
            if (fed.matches()) {
                Check.feed(x, fed.group(1));
            } else if (asked.matches()) {
                Check.due("README.md: " + line, answer(x, asked.group(1), asked.group(2)), due(asked.group(3)));
                calls++;
            } else {
                Check.holds("a line of README.md is a call: " + line, false);
            }
        }
        Check.holds("README.md shows calls", calls >= 15);
    }

    private static int answer(SidelessTown x, String name, String told) throws ReflectiveOperationException {
        String[] numbers = told.isEmpty() ? new String[0] : told.split(", ");
        Class<?>[] types = new Class<?>[numbers.length];
        Object[] values = new Object[numbers.length];
        for (int i = 0; i < numbers.length; i++) {
            types[i] = int.class;
            values[i] = Integer.valueOf(numbers[i]);
        }
        return (Integer) SidelessTown.class.getMethod(name, types).invoke(x, values);
    }

    private static int due(String told) throws ReflectiveOperationException {
        return Character.isLetter(told.charAt(0)) ? SidelessTown.class.getField(told).getInt(null)
            : Integer.parseInt(told);
    }

    private static void names(String readme) {
        for (Method m : SidelessTown.class.getDeclaredMethods()) {
            if (Modifier.isPublic(m.getModifiers())) {
                Check.holds("README.md names " + m.getName(), readme.contains("`" + m.getName() + "`"));
            }
        }
        for (Field f : SidelessTown.class.getFields()) {
            Check.holds("README.md names " + f.getName(), readme.contains("`" + f.getName() + "`"));
        }
    }

    private static void tests(String readme) {
        Matcher m = Pattern.compile("java -cp \\S+ (\\w+)").matcher(readme);
        while (m.find()) {
            Check.holds(m.group(1) + " is there", Files.exists(Path.of("src/test/java/" + m.group(1) + ".java")));
        }
        Check.holds(".ci/run is there, and runs", Files.isExecutable(Path.of(".ci/run")));
    }
}

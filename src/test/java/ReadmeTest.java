import java.io.File;
import java.io.IOException;
import java.lang.reflect.Field;
import java.lang.reflect.Method;
import java.lang.reflect.Modifier;
import java.nio.file.Files;
import java.nio.file.Path;
import java.util.Set;
import java.util.TreeSet;
import java.util.regex.Matcher;
import java.util.regex.Pattern;

/** README.md tells the truth: its example answers what it says, and it leaves out no call, constant or test. */
public final class ReadmeTest {
    private static final Pattern EXAMPLE = Pattern.compile("(?m)^x\\.(\\w+)\\(([^)]*)\\); *// (-?\\w+)");

    private static int wrong = 0;

    public static void main(String[] args) throws IOException, ReflectiveOperationException {
        String text = Files.readString(Path.of("README.md"));
        checkExample(text);
        checkNames(text);
        checkTests(text);
        if (wrong != 0) {
            System.exit(1);
        }
    }

    private static void fault(String what) {
        wrong++;
        System.out.println("README.md: " + what);
    }

    private static Set<String> publicCalls() {
        Set<String> names = new TreeSet<>();
        for (Method m : RecurrenceEngine.class.getDeclaredMethods()) {
            if (Modifier.isPublic(m.getModifiers())) {
                names.add(m.getName());
            }
        }
        return names;
    }

    private static void checkExample(String text) throws ReflectiveOperationException {
        RecurrenceEngine x = new RecurrenceEngine();
        Set<String> shown = new TreeSet<>();
        Matcher line = EXAMPLE.matcher(text);
        int lines = 0;
        while (line.find()) {
            lines++;
            shown.add(line.group(1));
            String got = answer(x, line.group(1), line.group(2).split(", "));
            if (!got.equals(due(line.group(3)))) {
                fault(line.group() + " answered " + got);
            }
        }
        if (!shown.equals(publicCalls())) {
            fault("the example shows the calls " + shown + " alone");
        }
        if (lines != text.split("(?m)^x\\.", -1).length - 1) {
            fault("a line of the example has no answer that this test can read");
        }
    }

    private static String answer(RecurrenceEngine x, String call, String[] numbers) throws ReflectiveOperationException {
        Class<?>[] types = new Class<?>[numbers.length];
        Object[] values = new Object[numbers.length];
        for (int i = 0; i < numbers.length; i++) {
            types[i] = int.class;
            values[i] = Integer.valueOf(numbers[i]);
        }
        return RecurrenceEngine.class.getMethod(call, types).invoke(x, values).toString();
    }

    /** An answer is told as a number, as true or false, or by the name of a constant. */
    private static String due(String told) throws ReflectiveOperationException {
        if (!told.matches("[A-Z_]+")) {
            return told;
        }
        return String.valueOf(RecurrenceEngine.class.getField(told).getInt(null));
    }

    private static void checkNames(String text) throws ReflectiveOperationException {
        for (String name : publicCalls()) {
            if (!text.contains("| `" + name + "(")) {
                fault("the table leaves out " + name);
            }
        }
        for (Field f : RecurrenceEngine.class.getFields()) {
            if (!text.contains("`" + f.getName() + "` " + f.getInt(null))) {
                fault("does not tell the value of " + f.getName());
            }
        }
    }

    private static void checkTests(String text) {
        String[] files = new File("src/test/java").list();
        for (String file : files == null ? new String[0] : files) {
            if (!text.contains("- `" + file.replace(".java", "") + "`: ")) {
                fault("leaves out the test " + file);
            }
        }
    }
}

import java.io.IOException;
import java.lang.reflect.Method;
import java.lang.reflect.Modifier;
import java.nio.file.Files;
import java.nio.file.Path;
import java.util.regex.Matcher;
import java.util.regex.Pattern;

/** What README.md says of the class: its example is run line by line, and each call has a word there. */
public final class ReadmeTest {
    private static final int LEAST_LINES = 15;

    private static int wrong;

    private static void fault(String what) {
        wrong++;
        System.out.println("README.md: " + what);
    }

    private static String first(String pattern, String text) {
        Matcher m = Pattern.compile(pattern).matcher(text);
        return m.find() ? m.group(1) : "";
    }

    /** Of 'NONE', 'STATE' and their like by the class's own constants, else the number. */
    private static long answer(String word) throws ReflectiveOperationException {
        return word.matches("-?\\d+") ? Long.parseLong(word) : OddBank.class.getField(word).getInt(null);
    }

    private static Method named(String name) {
        for (Method m : OddBank.class.getDeclaredMethods()) {
            if (Modifier.isPublic(m.getModifiers()) && m.getName().equals(name)) {
                return m;
            }
        }
        throw new IllegalArgumentException("README.md calls " + name);
    }

    private static long call(OddBank bank, String name, String arguments) throws ReflectiveOperationException {
        Method m = named(name);
        String[] words = arguments.isEmpty() ? new String[0] : arguments.split(", ");
        Object[] given = new Object[words.length];
        for (int i = 0; i < words.length; i++) {
            boolean isNumber = m.getParameterTypes()[i] == int.class;
            given[i] = isNumber ? (Object) Integer.valueOf(words[i]) : (Object) Boolean.valueOf(words[i]);
        }
        return ((Number) m.invoke(bank, given)).longValue();
    }

    private static void runExample(String example) throws ReflectiveOperationException {
        OddBank bank = new OddBank();
        for (char c : first("String text = \"([^\"]*)\"", example).toCharArray()) {
            bank.letter(c);
        }
        Matcher m = Pattern.compile("(?m)^bank\\.(\\w+)\\(([^)]*)\\); *// (-?\\w+):").matcher(example);
        int lines = 0;
        while (m.find()) {
            lines++;
            long got = call(bank, m.group(1), m.group(2));
            if (got != answer(m.group(3))) {
                fault(m.group() + " it answered " + got);
            }
        }
        if (lines < LEAST_LINES) {
            fault("only " + lines + " lines of the example were found");
        }
    }

    public static void main(String[] args) throws IOException, ReflectiveOperationException {
        String readme = Files.readString(Path.of("README.md"));
        runExample(first("(?s)```java\n(.*?)```", readme));
        for (Method m : OddBank.class.getDeclaredMethods()) {
            if (Modifier.isPublic(m.getModifiers()) && !readme.contains("`" + m.getName() + "`")) {
                fault("it says nothing of " + m.getName());
            }
        }
        if (!readme.contains(".ci/run")) {
            fault("it does not say how to run the tests");
        }
        System.out.println(wrong == 0 ? "README.md is as the class is" : wrong + " faults");
        if (wrong != 0) {
            System.exit(1);
        }
    }
}

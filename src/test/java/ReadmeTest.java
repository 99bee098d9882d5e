import java.io.IOException;
import java.lang.reflect.Method;
import java.nio.file.Files;
import java.nio.file.Path;
import java.util.HashSet;
import java.util.Set;
import java.util.regex.Matcher;
import java.util.regex.Pattern;

/** README.md's calls answer what stands behind them there, and each method is among them. */
public final class ReadmeTest {
    private static final Pattern CALL =
            Pattern.compile("bench\\.(\\w+)\\(([^)]*)\\); +// (-?\\d+|BAD|NONE|BIG)(:.*)?");
    private static final String NEW_OBJECT = "CrashRounds bench = new CrashRounds();";
    private static final int METHODS = 17;

    private static final Set<String> called = new HashSet<>();
    private static CrashRounds bench;
    private static int wrong = 0;

    public static void main(String[] args) throws IOException, ReflectiveOperationException {
        boolean inCode = false;
        for (String line : Files.readAllLines(Path.of("README.md"))) {
            if (line.startsWith("```")) {
                inCode = line.equals("```java");
            } else if (inCode) {
                readLine(line);
            }
        }
        check(called.size() == METHODS, "methods called are " + called);
        System.out.println(wrong == 0 ? "README.md is right" : wrong + " lines are not right");
        if (wrong != 0) {
            System.exit(1);
        }
    }

    private static void check(boolean holds, String what) {
        if (!holds) {
            wrong++;
            System.out.println("README.md: " + what);
        }
    }

    private static void readLine(String line) throws ReflectiveOperationException {
        Matcher call = CALL.matcher(line);
        if (line.equals(NEW_OBJECT)) {
            bench = new CrashRounds();
        } else if (call.matches() && bench != null) {
            int answer = answer(call.group(1), call.group(2));
            check(answer == number(call.group(3)), line + " -- it answered " + answer);
            called.add(call.group(1));
        } else {
            check(false, "no call with its answer: " + line);
        }
    }

    private static int answer(String name, String list) throws ReflectiveOperationException {
        String[] words = list.isEmpty() ? new String[0] : list.split(", ");
        Class<?>[] types = new Class<?>[words.length];
        Object[] numbers = new Object[words.length];
        for (int i = 0; i < words.length; i++) {
            types[i] = int.class;
            numbers[i] = number(words[i]);
        }
        Method method = CrashRounds.class.getMethod(name, types);
        return (int) method.invoke(bench, numbers);
    }

    private static int number(String word) {
        switch (word) {
            case "BAD":
                return CrashRounds.BAD;
            case "NONE":
                return CrashRounds.NONE;
            case "BIG":
                return CrashRounds.BIG;
            default:
                return word.startsWith("0b") ? Integer.parseInt(word.substring(2), 2)
                        : Integer.parseInt(word);
        }
    }
}

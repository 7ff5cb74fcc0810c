import java.lang.reflect.Method;
import java.nio.file.Files;
import java.nio.file.Path;
import java.util.regex.Matcher;
import java.util.regex.Pattern;

/** Makes the calls of README.md's example: each answers what stands beside it there. */
public final class ReadmeTest {
    private static final Checks CHECKS = new Checks("ReadmeTest");
    private static final Pattern CALL =
            Pattern.compile("(?m)^bench\\.(\\w+)\\((.*)\\); +// (true|false|-?\\d+)\\b");

    public static void main(String[] args) throws ReflectiveOperationException, java.io.IOException {
        String readme = Files.readString(Path.of("README.md"));
        SignBench bench = new SignBench();
        Matcher calls = CALL.matcher(readme);
        int made = 0;
        while (calls.find()) {
            String got = String.valueOf(answer(bench, calls.group(1), calls.group(2).split(", *")));
            CHECKS.due(calls.group() + " (it was " + got + ")", got.equals(calls.group(3)), true);
            made++;
        }
        CHECKS.due("every line with a call has its answer", made, readme.lines().filter(line ->
                line.startsWith("bench.")).count());
        for (Method method : SignBench.class.getMethods()) {
            if (method.getDeclaringClass() == SignBench.class) {
                CHECKS.due(method.getName() + " is told", readme.contains("`" + method.getName() + "`"), true);
            }
        }
        CHECKS.end();
    }

    private static Object answer(SignBench bench, String name, String[] words)
            throws ReflectiveOperationException {
        for (Method method : SignBench.class.getMethods()) {
            if (method.getName().equals(name) && method.getDeclaringClass() == SignBench.class) {
                Class<?>[] types = method.getParameterTypes();
                Object[] values = new Object[types.length];
                for (int k = 0; k < types.length; k++) {
                    values[k] = value(types[k], words[k]);
                }
                return method.invoke(bench, values);
            }
        }
        throw new NoSuchMethodException(name);
    }

    private static Object value(Class<?> type, String word) {
        if (type == boolean.class) {
            return Boolean.valueOf(word);
        }
        long number = Long.parseLong(word.replace("L", ""));
        if (type == long.class) {
            return number;
        }
        return (int) number;
    }
}

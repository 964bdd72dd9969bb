import java.io.IOException;
import java.lang.reflect.InvocationTargetException;
import java.lang.reflect.Method;
import java.lang.reflect.Modifier;
import java.nio.file.Files;
import java.nio.file.Path;
import java.util.regex.Matcher;
import java.util.regex.Pattern;

/** README's example answers what its comments say, and README names every call. */
public final class ReadmeTest {
    private static final Checks CHECKS = new Checks();
    private static final Pattern CALLS = Pattern.compile("(?m)^house\\.(\\w+)\\(([^)]*)\\); +// (true|false|-?\\d+)\\b");

    public static void main(String[] args) throws IOException, IllegalAccessException, InvocationTargetException {
        String readme = Files.readString(Path.of("README.md"));
        EndgameHouse house = new EndgameHouse();
        Matcher calls = CALLS.matcher(readme);
        int seen = 0;
        while (calls.find()) {
            seen++;
            Object answer = named(calls.group(1)).invoke(house, numbers(calls.group(2)));
            String call = calls.group(1) + "(" + calls.group(2) + ")";
            CHECKS.yes(call + " answers " + answer + ", README says " + calls.group(3),
                    calls.group(3).equals(answer.toString()));
        }
        CHECKS.same("lines of the example", seen, readme.lines().filter(line -> line.startsWith("house.")).count());
        for (Method method : EndgameHouse.class.getDeclaredMethods()) {
            if (Modifier.isPublic(method.getModifiers())) {
                CHECKS.yes("README's table has " + method.getName(), readme.contains("`" + method.getName() + "("));
                CHECKS.yes("README's example has " + method.getName(), readme.contains("\nhouse." + method.getName() + "("));
            }
        }
        CHECKS.yes("README says how to run the tests", readme.contains(".ci/run"));
        CHECKS.end();
    }

    private static Method named(String name) {
        for (Method method : EndgameHouse.class.getDeclaredMethods()) {
            if (Modifier.isPublic(method.getModifiers()) && method.getName().equals(name)) {
                return method;
            }
        }
        throw new IllegalArgumentException("README names a call that is not there: " + name);
    }

    private static Object[] numbers(String list) {
        String[] parts = list.split(", ");
        Object[] numbers = new Object[parts.length];
        for (int i = 0; i < parts.length; i++) {
            numbers[i] = Integer.decode(parts[i]);
        }
        return numbers;
    }
}

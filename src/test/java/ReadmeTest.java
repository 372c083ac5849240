import java.io.IOException;
import java.lang.reflect.InvocationTargetException;
import java.lang.reflect.Method;
import java.lang.reflect.Modifier;
import java.nio.file.Files;
import java.nio.file.Path;
import java.util.regex.Matcher;
import java.util.regex.Pattern;

/** Each call that stands in README.md with its answer, one behind the other on one object. */
public final class ReadmeTest {
    private static final Pattern CALL = Pattern.compile("x\\.(\\w+)\\((.*?)\\); +// ([-\\w]+): .*");

    public static void main(String[] args) throws IOException {
        DoubleTurns x = new DoubleTurns();
        String readme = Files.readString(Path.of("README.md"));
        int calls = 0;
        for (String line : readme.split("\n")) {
            Matcher call = CALL.matcher(line);
            if (call.matches()) {
                calls++;
                same(line, answer(x, call.group(1), call.group(2)), call.group(3));
            } else {
                same(line, line.startsWith("x.") ? "a call without its answer" : "", "");
            }
        }
        Check.due("README.md has calls", calls > 0, true);
        for (Method method : DoubleTurns.class.getDeclaredMethods()) {
            if (Modifier.isPublic(method.getModifiers())) {
                Check.due("README.md names " + method.getName(), readme.contains("`" + method.getName() + "`"), true);
            }
        }
        Check.end("ReadmeTest");
    }

    private static void same(String line, String got, String want) {
        Check.due(line + " (it answers " + got + "), the same", got.equals(want), true);
    }

    private static String answer(DoubleTurns x, String name, String told) {
        String[] parts = told.isEmpty() ? new String[0] : told.split(", ");
        Object[] numbers = new Object[parts.length];
        for (int i = 0; i < parts.length; i++) {
            numbers[i] = Integer.decode(parts[i]);
        }
        try {
            for (Method method : DoubleTurns.class.getDeclaredMethods()) {
                if (method.getName().equals(name) && Modifier.isPublic(method.getModifiers())) {
                    return String.valueOf(method.invoke(x, numbers));
                }
            }
            return "no such call";
        } catch (InvocationTargetException e) {
            return e.getCause().getClass().getSimpleName();
        } catch (IllegalAccessException | IllegalArgumentException e) {
            return "cannot be called so";
        }
    }
}

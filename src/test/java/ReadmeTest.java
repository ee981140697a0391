import java.io.IOException;
import java.lang.reflect.InvocationTargetException;
import java.lang.reflect.Method;
import java.lang.reflect.Modifier;
import java.nio.file.Files;
import java.nio.file.Path;
import java.util.Arrays;
import java.util.Set;
import java.util.TreeSet;
import java.util.regex.Matcher;
import java.util.regex.Pattern;

/** The example in README.md is run, so that what it tells a reader can't grow stale. */
public final class ReadmeTest {
    private static final Pattern CALL =
        Pattern.compile("(?m)^keeper\\.(\\w+)\\(([^)]*)\\); +// (throws \\w+|true|false|-?\\d+)\\b.*$");
    private static final Pattern ANY_CALL = Pattern.compile("(?m)^keeper\\.");
    private static final Pattern TABLE_ROW = Pattern.compile("(?m)^\\| `(\\w+)\\(([^)]*)\\)` \\|");

    private static final Checks CHECKS = new Checks();

    public static void main(String[] args) throws IOException {
        String text = Files.readString(Path.of("README.md"));
        int run = runExample(text);
        CHECKS.due("calls of the example that tell their answer", ANY_CALL.matcher(text).results().count(), () -> run);
        CHECKS.due("whether there is an example", true, () -> String.valueOf(run > 0));
        CHECKS.due("the calls of the table", face(), () -> table(text));
        CHECKS.due("the command that runs the tests", true, () -> String.valueOf(text.contains("```sh\n.ci/run\n```")));
        CHECKS.close("ReadmeTest");
    }

    private static int runExample(String text) {
        PageKeeper keeper = new PageKeeper();
        int calls = 0;
        Matcher m = CALL.matcher(text);
        while (m.find()) {
            String name = m.group(1);
            int[] given = numbers(m.group(2));
            CHECKS.due("README.md: " + m.group(), m.group(3), () -> answer(keeper, name, given));
            calls++;
        }
        return calls;
    }

    private static int[] numbers(String given) {
        return given.isEmpty() ? new int[0] : Arrays.stream(given.split(", ")).mapToInt(Integer::parseInt).toArray();
    }

    private static String answer(PageKeeper keeper, String name, int[] given) {
        Class<?>[] types = new Class<?>[given.length];
        Arrays.fill(types, int.class);
        try {
            Method method = PageKeeper.class.getMethod(name, types);
            return String.valueOf(method.invoke(keeper, Arrays.stream(given).boxed().toArray()));
        } catch (InvocationTargetException e) {
            return "throws " + e.getCause().getClass().getSimpleName();
        } catch (ReflectiveOperationException e) {
            return "no such call";
        }
    }

    private static Set<String> face() {
        Set<String> calls = new TreeSet<>();
        for (Method m : PageKeeper.class.getDeclaredMethods()) {
            if (Modifier.isPublic(m.getModifiers())) {
                calls.add(m.getName() + " of " + m.getParameterCount());
            }
        }
        return calls;
    }

    private static Set<String> table(String text) {
        Set<String> calls = new TreeSet<>();
        Matcher m = TABLE_ROW.matcher(text);
        while (m.find()) {
            calls.add(m.group(1) + " of " + (m.group(2).isEmpty() ? 0 : m.group(2).split(", ").length));
        }
        return calls;
    }
}

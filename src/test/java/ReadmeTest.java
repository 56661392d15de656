import java.io.IOException;
import java.lang.reflect.Method;
import java.lang.reflect.Modifier;
import java.nio.file.Files;
import java.nio.file.Path;
import java.util.Arrays;
import java.util.TreeSet;
import java.util.regex.Matcher;
import java.util.regex.Pattern;

/** The example of README.md: each call answers what stands beside it, and no method is left out. */
public final class ReadmeTest {
    private static final String START = "InvariantFinder f = new InvariantFinder();";
    private static final Pattern CALL = Pattern.compile(
        "f\\.(\\w+)\\(([-\\d, ]*)\\); +// (-?\\d+|true|false|no samples again).*");

    private static int wrong = 0;
    private static final TreeSet<String> called = new TreeSet<>();

    private static void fault(String what) {
        wrong++;
        System.out.println(what);
    }

    private static Object[] numbers(String text) {
        String[] parts = text.isEmpty() ? new String[0] : text.split(", ");
        Object[] all = new Object[parts.length];
        for (int i = 0; i < parts.length; i++) {
            all[i] = Integer.valueOf(parts[i]);
        }
        return all;
    }

    private static Object answer(InvariantFinder f, String name, Object[] arguments) throws ReflectiveOperationException {
        Class<?>[] types = new Class<?>[arguments.length];
        Arrays.fill(types, int.class);
        return InvariantFinder.class.getDeclaredMethod(name, types).invoke(f, arguments);
    }

    private static void lookAt(InvariantFinder f, String line) throws ReflectiveOperationException {
        Matcher call = CALL.matcher(line);
        if (!call.matches()) {
            fault("not understood: " + line);
            return;
        }
        Object got = answer(f, call.group(1), numbers(call.group(2)));
        String want = call.group(1).equals("clear") ? "null" : call.group(3);
        called.add(call.group(1));
        if (!String.valueOf(got).equals(want)) {
            fault(line + " answered " + got);
        }
    }

    private static void lookForLeftOut() {
        for (Method method : InvariantFinder.class.getDeclaredMethods()) {
            boolean shown = Modifier.isPublic(method.getModifiers());
            if (shown && !called.contains(method.getName())) {
                fault("README.md does not show " + method.getName());
            }
        }
    }

    public static void main(String[] args) throws IOException, ReflectiveOperationException {
        InvariantFinder f = null;
        int calls = 0;
        for (String line : Files.readAllLines(Path.of("README.md"))) {
            if (line.equals(START)) {
                f = new InvariantFinder();
            } else if (line.startsWith("f.")) {
                lookAt(f, line);
                calls++;
            }
        }
        lookForLeftOut();
        System.out.println(calls + " calls of README.md, " + wrong + " faults");
        if (wrong != 0) {
            System.exit(1);
        }
    }
}

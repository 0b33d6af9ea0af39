import java.io.IOException;
import java.lang.reflect.Method;
import java.lang.reflect.Modifier;
import java.nio.file.Files;
import java.nio.file.Path;
import java.util.Arrays;
import java.util.List;
import java.util.Set;
import java.util.TreeSet;
import java.util.regex.Matcher;
import java.util.regex.Pattern;

/** The calls that README.md shows in its code blocks answer what stands beside them there. */
public final class ReadmeTest extends Checks {
    private static final String MAKING = "OrderMatcher m = new OrderMatcher();";
    /** A call with whole numbers, its answer, and what the answer means. */
    private static final Pattern CALL = Pattern.compile("m\\.(\\w+)\\((.*)\\); +// (-?\\d+)(: .+)?");

    private final Set<String> shown = new TreeSet<>();
    private OrderMatcher m;

    public static void main(String[] args) throws IOException {
        ReadmeTest readme = new ReadmeTest();
        readme.tryBlocks(Files.readAllLines(Path.of("README.md")));
        test("README.md shows every method", readme::everyMethodIsShown);
        end();
    }

    private void tryBlocks(List<String> lines) {
        boolean inside = false;
        for (int i = 0; i < lines.size(); i++) {
            String line = lines.get(i).strip();
            if (line.startsWith("```")) {
                inside = !inside;
            } else if (inside && !line.isEmpty()) {
                test("README.md, line " + (i + 1), () -> tryLine(line));
            }
        }
    }

    private void tryLine(String line) {
        Matcher call = CALL.matcher(line);
        if (line.equals(MAKING)) {
            m = new OrderMatcher();
        } else if (call.matches()) {
            shown.add(call.group(1));
            due(line, answer(call.group(1), call.group(2)), Integer.parseInt(call.group(3)));
        } else {
            // Not passed over: what cannot be tried is not known to hold.
            due(line, "no such line", "the making of m, or one call with its answer");
        }
    }

    private int answer(String name, String arguments) {
        Object[] values = arguments.isEmpty()
            ? new Object[0]
            : Arrays.stream(arguments.split(", ")).map(Integer::valueOf).toArray();
        Class<?>[] types = new Class<?>[values.length];
        Arrays.fill(types, int.class);
        try {
            return (int) OrderMatcher.class.getMethod(name, types).invoke(m, values);
        } catch (ReflectiveOperationException failed) {
            throw new IllegalStateException(failed);
        }
    }

    private void everyMethodIsShown() {
        for (Method method : OrderMatcher.class.getDeclaredMethods()) {
            if (Modifier.isPublic(method.getModifiers())) {
                due("whether " + method.getName() + " is shown", shown.contains(method.getName()), true);
            }
        }
    }
}

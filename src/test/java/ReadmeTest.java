import java.io.IOException;
import java.lang.reflect.Field;
import java.lang.reflect.Method;
import java.lang.reflect.Modifier;
import java.nio.file.Files;
import java.nio.file.Path;
import java.util.ArrayList;
import java.util.Arrays;
import java.util.List;
import java.util.regex.Matcher;
import java.util.regex.Pattern;

/** README.md: the calls of its example have the answers that stand behind them, and no call or constant is left out. */
public final class ReadmeTest {
    private static final Pattern MAKE = Pattern.compile("ControllableTime net = new ControllableTime\\((.*)\\);.*");
    private static final Pattern CALL = Pattern.compile("net\\.(\\w+)\\((.*)\\); +// (-?\\w+)(:.*)?");
    private static final int LEAST_CALLS = 20;
    private static final Checks CHECKS = new Checks();

    private ControllableTime net;
    private int calls = 0;

    public static void main(String[] args) throws IOException, ReflectiveOperationException {
        List<String> lines = Files.readAllLines(Path.of("README.md"));
        new ReadmeTest().example(lines);
        nothingLeftOut(String.join("\n", lines));
        CHECKS.finish();
    }

    private void example(List<String> lines) throws ReflectiveOperationException {
        boolean isCode = false;
        for (String line : lines) {
            if (line.startsWith("```")) {
                isCode = line.equals("```java");
            } else if (isCode && !line.isEmpty()) {
                follow(line);
            }
        }
        CHECKS.due("enough calls in the example", calls >= LEAST_CALLS ? 1 : 0, 1);
    }

    private void follow(String line) throws ReflectiveOperationException {
        Matcher make = MAKE.matcher(line);
        Matcher call = CALL.matcher(line);
        if (make.matches()) {
            Object[] sizes = values(make.group(1));
            net = new ControllableTime((int) sizes[0], (int) sizes[1]);
        } else if (call.matches()) {
            calls++;
            CHECKS.due(line, call(call.group(1), values(call.group(2))), value(call.group(3)));
        } else {
            CHECKS.due("is a call with its answer: " + line, 0, 1);
        }
    }

    private int call(String name, Object[] arguments) throws ReflectiveOperationException {
        Class<?>[] types = new Class<?>[arguments.length];
        Arrays.fill(types, int.class);
        return (int) ControllableTime.class.getMethod(name, types).invoke(net, arguments);
    }

    private static Object[] values(String list) throws ReflectiveOperationException {
        List<Object> values = new ArrayList<>();
        for (String word : list.isEmpty() ? new String[0] : list.split(", ")) {
            values.add(value(word));
        }
        return values.toArray();
    }

    private static int value(String word) throws ReflectiveOperationException {
        if (word.matches("-?\\d+")) {
            return Integer.parseInt(word);
        }
        return ControllableTime.class.getField(word.replace("ControllableTime.", "")).getInt(null);
    }

    private static void nothingLeftOut(String text) throws ReflectiveOperationException {
        for (Method method : ControllableTime.class.getDeclaredMethods()) {
            if (Modifier.isPublic(method.getModifiers())) {
                CHECKS.due("tells of " + method.getName(), text.contains("`" + method.getName() + "(") ? 1 : 0, 1);
            }
        }
        for (Field field : ControllableTime.class.getFields()) {
            String row = "| `" + field.getName() + "` | " + field.getInt(null) + " |";
            CHECKS.due("has the row " + row, text.contains(row) ? 1 : 0, 1);
        }
    }
}

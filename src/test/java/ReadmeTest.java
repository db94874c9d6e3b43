import java.io.IOException;
import java.lang.reflect.InvocationTargetException;
import java.lang.reflect.Method;
import java.lang.reflect.Modifier;
import java.nio.file.Files;
import java.nio.file.Path;
import java.util.List;
import java.util.regex.Matcher;
import java.util.regex.Pattern;

/** README.md says how the class is used: its examples answer what stands behind them, and every call is named. */
public final class ReadmeTest {
    private static final Pattern CALL = Pattern.compile("x\\.(\\w+)\\(([-\\w, ]*)\\); *// (-?\\d+|true|false)\\b.*");
    private static final Pattern WRITING = Pattern.compile("write\\(x, \"(.*)\"\\);");

    public static void main(String[] args) throws IOException, ReflectiveOperationException {
        List<String> readme = Files.readAllLines(Path.of("README.md"));
        DryPlaces x = new DryPlaces();
        int calls = 0;
        for (String line : readme) {
            Matcher call = CALL.matcher(line);
            Matcher writing = WRITING.matcher(line);
            if (call.matches()) {
                Due.is(line, answer(x, call.group(1), call.group(2)).equals(call.group(3)), true);
                calls++;
            } else if (writing.matches()) {
                Due.write(x, writing.group(1));
            } else {
                Due.is("a call without its answer: " + line, line.startsWith("x."), false);
            }
        }
        Due.is("examples", calls > 20, true);
        String all = String.join("\n", readme);
        for (Method method : DryPlaces.class.getDeclaredMethods()) {
            boolean isPublic = Modifier.isPublic(method.getModifiers());
            Due.is("named: " + method.getName(), !isPublic || all.contains("`" + method.getName() + "`"), true);
        }
        Due.is("how the tests are run", all.contains("\n.ci/run\n"), true);
        Due.close();
    }

    private static String answer(DryPlaces x, String name, String arguments) throws ReflectiveOperationException {
        String[] parts = arguments.isBlank() ? new String[0] : arguments.split(", ");
        for (Method method : DryPlaces.class.getMethods()) {
            if (method.getName().equals(name) && method.getParameterCount() == parts.length) {
                return ask(x, method, parts);
            }
        }
        return "no such call";
    }

    private static String ask(DryPlaces x, Method method, String[] parts) throws IllegalAccessException, InvocationTargetException {
        Object[] values = new Object[parts.length];
        for (int i = 0; i < parts.length; i++) {
            boolean isFlag = method.getParameterTypes()[i] == boolean.class;
            values[i] = isFlag ? (Object) Boolean.valueOf(parts[i]) : (Object) Integer.valueOf(parts[i]);
        }
        return String.valueOf(method.invoke(x, values));
    }
}

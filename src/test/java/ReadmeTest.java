import java.io.IOException;
import java.lang.reflect.Field;
import java.lang.reflect.InvocationTargetException;
import java.lang.reflect.Method;
import java.lang.reflect.Modifier;
import java.nio.charset.StandardCharsets;
import java.nio.file.Files;
import java.nio.file.Path;
import java.util.List;
import java.util.regex.Matcher;
import java.util.regex.Pattern;

/**
 * The examples of README.md answer what stands behind them, and the page tells each call and each constant. Its path
 * can be given as an argument.
 */
public final class ReadmeTest {
    private static final Due DUE = new Due();
    private static final String NEW = "WarmProbes x = new WarmProbes();";
    private static final Pattern CALL = Pattern.compile("x\\.(\\w+)\\(([^()]*)\\); +// (-?\\d+)(:.*)?");

    public static void main(String[] args) throws IOException, ReflectiveOperationException {
        String page = Files.readString(Path.of(args.length > 0 ? args[0] : "README.md"), StandardCharsets.US_ASCII);
        examples(List.of(page.split("\n")));
        eachCall(page);
        eachConstant(page);
        DUE.end();
    }

    private static void examples(List<String> lines) throws ReflectiveOperationException {
        boolean isCode = false;
        WarmProbes x = null;
        int examples = 0;
        int calls = 0;
        for (String line : lines) {
            if (line.startsWith("```")) {
                isCode = line.equals("```java");
            } else if (isCode && line.equals(NEW)) {
                x = new WarmProbes();
                examples++;
            } else if (isCode) {
                answer(x, line);
                calls++;
            }
        }
        DUE.is("examples", examples, 2);
        DUE.is("calls in them", calls > 30 ? 1 : 0, 1);
    }

    /** Each line of an example has to be a call with its answer, so that none goes untested. */
    private static void answer(WarmProbes x, String line) throws ReflectiveOperationException {
        Matcher call = CALL.matcher(line);
        if (x == null || !call.matches()) {
            DUE.is("a call with its answer: " + line, 0, 1);
            return;
        }
        Method method = methodOf(call.group(1));
        String[] words = words(call.group(2));
        if (method == null || method.getParameterCount() != words.length) {
            DUE.is("a call of the face: " + line, 0, 1);
            return;
        }
        Object[] arguments = new Object[words.length];
        for (int i = 0; i < words.length; i++) {
            long number = words[i].startsWith("0x") ? Long.decode(words[i].replace("L", "")) : Long.parseLong(words[i]);
            boolean isLong = method.getParameterTypes()[i] == long.class;
            arguments[i] = isLong ? (Object) number : (Object) Math.toIntExact(number);
        }
        DUE.is(line, called(x, method, arguments), Long.parseLong(call.group(3)));
    }

    private static long called(WarmProbes x, Method method, Object[] arguments) throws IllegalAccessException {
        try {
            return ((Number) method.invoke(x, arguments)).longValue();
        } catch (InvocationTargetException exception) {
            throw new IllegalStateException(method.getName(), exception);
        }
    }

    private static Method methodOf(String name) {
        for (Method method : WarmProbes.class.getDeclaredMethods()) {
            if (method.getName().equals(name) && Modifier.isPublic(method.getModifiers())) {
                return method;
            }
        }
        return null;
    }

    private static String[] words(String listed) {
        return listed.isBlank() ? new String[0] : listed.split(", *");
    }

    /** A table tells the call with all its arguments. */
    private static void eachCall(String page) {
        for (Method method : WarmProbes.class.getDeclaredMethods()) {
            if (Modifier.isPublic(method.getModifiers())) {
                String form = "(?m)^\\| `" + method.getName() + "\\(([^)]*)\\)` \\| .* \\|$";
                Matcher row = Pattern.compile(form).matcher(page);
                boolean isTold = row.find();
                DUE.is("a row tells " + method.getName(), isTold ? 1 : 0, 1);
                if (isTold) {
                    DUE.is("arguments of " + method.getName(), words(row.group(1)).length, method.getParameterCount());
                }
            }
        }
    }

    private static void eachConstant(String page) throws IllegalAccessException {
        for (Field field : WarmProbes.class.getDeclaredFields()) {
            if (Modifier.isPublic(field.getModifiers())) {
                String row = "\n| `" + field.getName() + "` | " + field.getInt(null) + " | ";
                DUE.is("a row tells " + field.getName(), page.contains(row) ? 1 : 0, 1);
            }
        }
    }
}

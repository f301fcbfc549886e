import java.lang.reflect.InvocationTargetException;
import java.lang.reflect.Method;
import java.nio.file.Files;
import java.nio.file.Path;
import java.util.Arrays;
import java.util.Map;
import java.util.Set;
import java.util.TreeSet;
import java.util.regex.Matcher;
import java.util.regex.Pattern;
import java.util.stream.Collectors;

/** README.md: the calls of its examples, one behind the other, answer what stands behind them. */
public final class ReadmeTest {
    private static final Pattern CALL = Pattern.compile(" {4}x\\.(\\w+)\\((.*?)\\); +// (-?\\w+)\\b.*");
    private static final String MADE = "    RangeGraves x = new RangeGraves();";

    private static final Map<String, Method> METHODS = Arrays.stream(RangeGraves.class.getMethods())
            .filter(m -> m.getDeclaringClass() == RangeGraves.class)
            .collect(Collectors.toMap(Method::getName, m -> m));

    public static void main(String[] arguments) throws Exception {
        RangeGraves x = new RangeGraves();
        Set<String> called = new TreeSet<>();
        int made = 0;
        for (String line : Files.readAllLines(Path.of(arguments[2]))) {
            Matcher m = CALL.matcher(line);
            if (line.equals(MADE)) {
                made++;
            } else if (m.matches()) {
                called.add(m.group(1));
                Check.sameText(line.trim(), answer(x, m.group(1), m.group(2)), m.group(3));
            } else {
                Check.same("an example that is no call: " + line, line.startsWith("    x") ? 1 : 0, 0);
            }
        }
        Check.same("objects that the examples make", made, 1);
        Set<String> left = new TreeSet<>(METHODS.keySet());
        left.removeAll(called);
        Check.sameText("methods that no example calls", left.toString(), "[]");
        Check.end("ReadmeTest");
    }

    private static String answer(RangeGraves x, String name, String given) throws Exception {
        Method method = METHODS.get(name);
        if (method == null) {
            return "no such method";
        }
        String[] texts = given.isEmpty() ? new String[0] : given.split(", ");
        Class<?>[] types = method.getParameterTypes();
        if (texts.length != types.length) {
            return "not so many arguments";
        }
        Object[] values = new Object[texts.length];
        for (int i = 0; i < values.length; i++) {
            values[i] = value(texts[i], types[i]);
        }
        try {
            int answer = (int) method.invoke(x, values);
            return answer == RangeGraves.NONE ? "NONE" : Integer.toString(answer);
        } catch (InvocationTargetException e) {
            return e.getCause().getClass().getSimpleName();
        }
    }

    /** An argument as it is written in Java: NONE, a sign, or a number, a long one with an L. */
    private static Object value(String text, Class<?> type) {
        if (text.equals("RangeGraves.NONE")) {
            return RangeGraves.NONE;
        }
        if (text.length() == 3 && text.charAt(0) == '\'') {
            return (int) text.charAt(1);
        }
        if (type == long.class) {
            return Long.parseLong(text.replaceAll("L$", ""));
        }
        return Integer.parseInt(text);
    }
}

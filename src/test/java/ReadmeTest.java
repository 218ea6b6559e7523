import java.io.IOException;
import java.lang.reflect.InvocationTargetException;
import java.lang.reflect.Method;
import java.lang.reflect.Modifier;
import java.nio.file.Files;
import java.nio.file.Path;
import java.util.Arrays;
import java.util.Map;
import java.util.TreeMap;
import java.util.TreeSet;
import java.util.regex.Matcher;
import java.util.regex.Pattern;

/** The run that README.md shows: it answers as is written there, and has every call of the face. */
public final class ReadmeTest {
    private static final Pattern CALL = Pattern.compile("x\\.(\\w+)\\((.*?)\\);\\s+// ([^:]+): .+");
    private static final String FIRST_LINE = "TableauBench x = new TableauBench();";

    private ReadmeTest() {
    }

    public static void main(String[] args) throws IOException, IllegalAccessException {
        Map<String, Method> face = new TreeMap<>();
        for (Method m : TableauBench.class.getDeclaredMethods()) {
            if (Modifier.isPublic(m.getModifiers())) {
                face.put(m.getName(), m);
            }
        }
        String text = Files.readString(Path.of(System.getProperty("project", "."), "README.md"));
        String run = text.split("```java\n")[1].split("```")[0];
        TreeSet<String> left = new TreeSet<>(face.keySet());
        TableauBench x = new TableauBench();
        for (String line : run.split("\n")) {
            Matcher call = CALL.matcher(line);
            if (!call.matches()) {
                Checks.same("a line without an answer", line, FIRST_LINE);
                continue;
            }
            Method m = face.get(call.group(1));
            Checks.same(line, m == null ? "no such call" : answer(x, m, call.group(2)), call.group(3));
            left.remove(call.group(1));
        }
        Checks.same("calls that the run has not", left.toString(), "[]");
        Checks.finish();
    }

    private static String answer(TableauBench x, Method m, String list) throws IllegalAccessException {
        String[] texts = list.isEmpty() ? new String[0] : list.split(", ");
        Class<?>[] types = m.getParameterTypes();
        if (texts.length != types.length) {
            return "has other parameters: " + Arrays.toString(types);
        }
        Object[] values = new Object[types.length];
        for (int i = 0; i < types.length; i++) {
            values[i] = value(texts[i], types[i]);
        }
        try {
            Object answer = m.invoke(x, values);
            return answer == null ? "void" : answer.toString();
        } catch (InvocationTargetException e) {
            return e.getCause().getClass().getSimpleName();
        }
    }

    private static Object value(String text, Class<?> type) {
        if (type == boolean.class) {
            return Boolean.valueOf(text);
        }
        long number = Long.decode(text.replace("_", "").replace("L", ""));
        if (type == int.class) {
            return (int) number;
        }
        return number;
    }
}

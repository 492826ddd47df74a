import java.lang.reflect.Method;
import java.lang.reflect.Modifier;
import java.nio.file.Files;
import java.nio.file.Path;
import java.util.Map;
import java.util.TreeMap;
import java.util.TreeSet;
import java.util.regex.Matcher;
import java.util.regex.Pattern;

/**
 * The examples of README.md: every call answers what stands behind it, and every call of the
 * face is shown. It is run where README.md is.
 */
public final class ReadmeTest {
    private static final String NEW_OBJECT = "MixedNumbers x = new MixedNumbers();";
    private static final Pattern CALL = Pattern.compile("x\\.(\\w+)\\(([^)]*)\\); +// (-?\\w+)(:? .*)?");

    private final Check check = new Check();
    private final Map<String, Method> face = new TreeMap<>();
    private final TreeSet<String> shown = new TreeSet<>();
    private MixedNumbers x;

    public static void main(String[] args) throws Exception {
        new ReadmeTest().run();
    }

    private void run() throws Exception {
        for (Method method : MixedNumbers.class.getDeclaredMethods()) {
            if (Modifier.isPublic(method.getModifiers())) {
                face.put(method.getName(), method);
            }
        }
        boolean inside = false;
        for (String line : Files.readAllLines(Path.of("README.md"))) {
            if (line.startsWith("```")) {
                inside = line.equals("```java");
            } else if (inside) {
                example(line);
            }
        }
        for (String name : face.keySet()) {
            check.due(name + " is shown in README.md", shown.contains(name), true);
        }
        check.end("ReadmeTest");
    }

    private void example(String line) throws Exception {
        if (line.equals(NEW_OBJECT)) {
            x = new MixedNumbers();
            return;
        }
        Matcher parts = CALL.matcher(line);
        boolean isCall = x != null && parts.matches() && face.containsKey(parts.group(1));
        check.due("'" + line + "' is a call with its answer", isCall, true);
        if (isCall) {
            shown.add(parts.group(1));
            String want = parts.group(3).equals("BAD") ? "-1" : parts.group(3);
            String got = answer(face.get(parts.group(1)), parts.group(2).split(", "));
            check.due("'" + line + "' with " + got, got.equals(want), true);
        }
    }

    private String answer(Method method, String[] texts) throws Exception {
        Object[] arguments = new Object[texts.length];
        for (int i = 0; i < texts.length; i++) {
            boolean isLong = method.getParameterTypes()[i] == long.class;
            arguments[i] = isLong ? (Object) Long.parseLong(texts[i]) : (Object) Integer.parseInt(texts[i]);
        }
        return String.valueOf(method.invoke(x, arguments));
    }
}

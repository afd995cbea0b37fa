import java.io.IOException;
import java.lang.reflect.InvocationTargetException;
import java.lang.reflect.Method;
import java.nio.file.Files;
import java.nio.file.Path;
import java.util.HashMap;
import java.util.Map;
import java.util.regex.Matcher;
import java.util.regex.Pattern;

/** The calls of README.md's example answer what is written beside them. */
public final class ReadmeTest {
    private static final Pattern CALL = Pattern.compile(
        "(?:int (\\w+) = )?engine\\.(\\w+)\\((.*)\\);\\s*// (-?\\d+|true|false)(?::.*)?");

    private final LineageEngine engine = new LineageEngine();
    private final Map<String, Object> variables = new HashMap<>(Map.of("true", true, "false", false));
    private int calls = 0;

    public static void main(String[] args) throws IOException {
        String text = Files.readString(Path.of("README.md"));
        Sentences.holds("README.md says how to use the class", () -> new ReadmeTest().example(text));
        Sentences.end();
    }

    private void example(String text) {
        for (String line : text.split("\\R")) {
            Matcher call = CALL.matcher(line);
            if (call.matches()) {
                due(line, call);
            } else if (line.contains("engine.")) {
                Sentences.fault("no call with its answer: " + line);
            }
        }
        if (calls == 0) {
            Sentences.fault("it has no calls");
        }
    }

    private void due(String line, Matcher call) {
        calls++;
        Object answer = answer(call.group(2), call.group(3));
        if (!String.valueOf(answer).equals(call.group(4))) {
            Sentences.fault(line + " answered " + answer);
        }
        if (call.group(1) != null) {
            variables.put(call.group(1), answer);
        }
    }

    private Object answer(String name, String list) {
        String[] words = list.isEmpty() ? new String[0] : list.split(", ");
        Object[] arguments = new Object[words.length];
        for (int i = 0; i < words.length; i++) {
            Object known = variables.get(words[i]);
            arguments[i] = known == null ? (Object) Integer.valueOf(words[i]) : known;
        }
        for (Method method : LineageEngine.class.getMethods()) {
            if (method.getName().equals(name)) {
                return invoked(method, arguments);
            }
        }
        return "nothing, there is no such method";
    }

    private Object invoked(Method method, Object[] arguments) {
        try {
            return method.invoke(engine, arguments);
        } catch (IllegalAccessException | InvocationTargetException thrown) {
            return thrown;
        }
    }
}

import java.lang.reflect.InvocationTargetException;
import java.lang.reflect.Method;
import java.nio.file.Files;
import java.nio.file.Path;
import java.util.HashMap;
import java.util.Map;
import java.util.regex.Matcher;
import java.util.regex.Pattern;

/** The examples of README.md: each call that stands in a line by itself, with the answer behind it. */
public final class ReadmeTest {
    private static final Pattern CALL = Pattern.compile("x\\.(\\w+)\\((.*?)\\);(?: // (-?\\w+).*)?");
    private static final Pattern DRAW = Pattern.compile("draw\\(x, \"(.*)\"\\); // (-?\\d+).*");
    private static final Check C = new Check();
    private static final Map<String, Method> FACE = new HashMap<>();

    private static BothSides x;

    private ReadmeTest() {
    }

    public static void main(String[] args) throws Exception {
        for (Method method : BothSides.class.getDeclaredMethods()) {
            FACE.put(method.getName(), method);
        }
        int calls = 0;
        for (String line : Files.readAllLines(Path.of("README.md"))) {
            calls += follow(line) ? 1 : 0;
        }
        C.due("there are examples", calls > 50, true);
        C.end();
    }

    private static boolean follow(String line) throws Exception {
        Matcher call = CALL.matcher(line);
        Matcher draw = DRAW.matcher(line);
        if (line.equals("BothSides x = new BothSides();")) {
            x = new BothSides();
        } else if (draw.matches()) {
            C.due(line, Check.draw(x, draw.group(1)), Integer.parseInt(draw.group(2)));
            return true;
        } else if (call.matches()) {
            C.due(line, answer(FACE.get(call.group(1)), call.group(2)), String.valueOf(call.group(3)));
            return true;
        }
        C.due(line + " can be followed", line.startsWith("x.") || line.startsWith("draw("), false);
        return false;
    }

    /** As a text; of what is thrown the name. */
    private static String answer(Method method, String told) throws Exception {
        String[] words = told.split(", ");
        Object[] given = new Object[method.getParameterCount()];
        for (int k = 0; k < given.length; k++) {
            given[k] = value(method.getParameterTypes()[k], words[k]);
        }
        try {
            return String.valueOf(method.invoke(x, given));
        } catch (InvocationTargetException e) {
            return e.getCause().getClass().getSimpleName();
        }
    }

    private static Object value(Class<?> type, String word) {
        if (type == boolean.class) {
            return Boolean.valueOf(word);
        }
        if (type == long.class) {
            return Long.decode(word);
        }
        return word.equals("BothSides.NONE") ? BothSides.NONE : Integer.decode(word);
    }
}

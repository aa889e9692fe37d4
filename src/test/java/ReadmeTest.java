import java.lang.reflect.Method;
import java.lang.reflect.Modifier;
import java.nio.charset.StandardCharsets;
import java.nio.file.Files;
import java.nio.file.Path;
import java.util.regex.Matcher;
import java.util.regex.Pattern;

/** README.md tells no wrong answer: its calls are made in their order, and each call of the face has a row. */
public final class ReadmeTest {
    private static final Due due = new Due();
    private static final Pattern CALL = Pattern.compile("^yard\\.(\\w+)\\(([^)]*)\\);\\s*// (-?\\d+|true|false)\\b.*");

    public static void main(String[] args) throws Exception {
        String page = Files.readString(Path.of("README.md"), StandardCharsets.UTF_8);
        rows(page);
        calls(page);
        due.end();
    }

    /** A call's row names it with its parameters, as the class does. */
    private static void rows(String page) {
        for (Method method : GasYard.class.getDeclaredMethods()) {
            if (Modifier.isPublic(method.getModifiers())) {
                Matcher row = Pattern.compile("(?m)^\\| `" + method.getName() + "\\(([^)]*)\\)` \\|.+\\|.+\\|.+\\|$")
                        .matcher(page);
                due.is("a row of " + method.getName(), row.find(), true);
                int named = row.reset().find() && !row.group(1).isEmpty() ? row.group(1).split(",").length : 0;
                due.is("parameters in the row of " + method.getName(), named, method.getParameterCount());
            }
        }
    }

    private static void calls(String page) throws Exception {
        GasYard yard = null;
        for (String line : page.split("\n")) {
            if (line.equals("GasYard yard = new GasYard();")) {
                yard = new GasYard();
            } else if (line.startsWith("yard.")) {
                Matcher call = CALL.matcher(line);
                due.is("a yard, a call and its answer: " + line, call.matches() && yard != null, true);
                if (yard != null && call.matches()) {
                    due.is(line, answer(yard, call.group(1), call.group(2)), call.group(3));
                }
            }
        }
        every(page);
    }

    private static String answer(GasYard yard, String name, String text) throws Exception {
        String[] words = text.isEmpty() ? new String[0] : text.split(", ");
        for (Method method : GasYard.class.getDeclaredMethods()) {
            if (method.getName().equals(name) && method.getParameterCount() == words.length) {
                Object[] values = new Object[words.length];
                for (int k = 0; k < words.length; k++) {
                    values[k] = method.getParameterTypes()[k] == boolean.class
                            ? (Object) Boolean.valueOf(words[k]) : Integer.decode(words[k]);
                }
                return String.valueOf(method.invoke(yard, values));
            }
        }
        return "no such call";
    }

    /** The page has at least one call of each name. */
    private static void every(String page) {
        for (Method method : GasYard.class.getDeclaredMethods()) {
            if (Modifier.isPublic(method.getModifiers())) {
                due.is("a call of " + method.getName(), page.contains("\nyard." + method.getName() + "("), true);
            }
        }
    }
}

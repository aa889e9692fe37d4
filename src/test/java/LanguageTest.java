import java.lang.reflect.Method;
import java.lang.reflect.Modifier;
import java.nio.charset.StandardCharsets;
import java.nio.file.Files;
import java.nio.file.Path;
import java.util.Arrays;
import java.util.List;
import java.util.Set;
import java.util.TreeSet;
import java.util.regex.Pattern;

/** The face of the document, and the rules of LANGUAGE.md that can be seen from outside or from the text. */
public final class LanguageTest {
    private static final Due due = new Due();
    private static final String[] FACE = {
        "int bank(int,int,int)", "int target(int,int)", "int air(int)", "int hoses(int)",
        "int feed(int,int,int,int,int)", "int end(int)", "int book()", "int flow(int)", "int price(int,int)",
        "boolean closed(int,boolean)", "boolean sensor(int,int,boolean)", "int car(int,int,int)", "int pass(int)",
        "int reading(int,int)", "int slip(int)", "int best(int,int,int,int)", "int bestOf(int,int)",
        "int banks(int,int)", "int cars(int,int)", "int count(int)",
    };

    public static void main(String[] args) throws Exception {
        face();
        insides();
        text(Files.readString(Path.of("src/main/java/GasYard.java"), StandardCharsets.ISO_8859_1));
        due.end();
    }

    private static void face() throws Exception {
        Set<String> wanted = new TreeSet<>(Arrays.asList(FACE));
        Set<String> found = new TreeSet<>();
        for (Method method : GasYard.class.getDeclaredMethods()) {
            if (!Modifier.isPrivate(method.getModifiers())) {
                String types = Arrays.toString(method.getParameterTypes()).replaceAll("[\\[\\] ]", "");
                found.add(method.getReturnType() + " " + method.getName() + "(" + types + ")");
            }
        }
        holds("the methods are those of the document: " + found, found.equals(wanted));
        holds("public and final", GasYard.class.getModifiers() == (Modifier.PUBLIC | Modifier.FINAL));
        holds("one constructor", GasYard.class.getDeclaredConstructors().length == 1
                && GasYard.class.getConstructor() != null);
        for (var field : GasYard.class.getDeclaredFields()) {
            holds("field " + field, Modifier.isPrivate(field.getModifiers()) || field.getName().equals("NONE"));
            holds("static and final " + field, !Modifier.isStatic(field.getModifiers())
                    || Modifier.isFinal(field.getModifiers()));
        }
    }

    private static void insides() {
        Set<String> names = new TreeSet<>();
        for (String method : FACE) {
            names.add(method.replaceAll("^\\w+ |\\(.*", ""));
        }
        Class<?>[] classes = GasYard.class.getDeclaredClasses();
        holds("at most twelve classes", classes.length < 12);
        for (Class<?> inside : classes) {
            holds("static " + inside, Modifier.isStatic(inside.getModifiers())
                    && !Modifier.isPublic(inside.getModifiers()));
            for (Method method : inside.getDeclaredMethods()) {
                holds("a name of its own: " + method, !names.contains(method.getName()));
                holds("at most seven parameters: " + method, method.getParameterCount() <= 7);
            }
            long fields = Arrays.stream(inside.getDeclaredFields())
                    .filter(field -> !Modifier.isStatic(field.getModifiers())).count();
            holds("at most twenty fields: " + inside, fields <= 20);
        }
        for (Method method : GasYard.class.getDeclaredMethods()) {
            holds("a private name: " + method, !Modifier.isPrivate(method.getModifiers())
                    || !names.contains(method.getName()));
        }
    }

    private static void text(String text) {
        List<String> banned = List.of("\\bthrow", "\\btry\\b", "\\bcatch\\b", "\\bfinally\\b", "\\bsynchronized\\b",
                "\\bassert\\b", "->", "::", "\\bimport\\b", "\\bpackage\\b", "Exact\\b", "\\bSystem\\.(?!arraycopy)",
                "\\bstatic \\{", "[^\\x00-\\x7f]", "\\bequals\\b|\\bhashCode\\b|\\btoString\\b", "while \\(true",
                "for \\(;;");
        String code = text.replaceAll("(?s)/\\*.*?\\*/", "").replaceAll("//[^\n]*", "");
        for (String pattern : banned) {
            holds("none of " + pattern, !Pattern.compile(pattern).matcher(code).find());
        }
    }

    private static void holds(String what, boolean is) {
        due.is(what, is, true);
    }
}

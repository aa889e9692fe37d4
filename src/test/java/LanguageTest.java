import java.io.DataInputStream;
import java.io.IOException;
import java.io.InputStream;
import java.lang.reflect.Method;
import java.lang.reflect.Modifier;
import java.nio.charset.StandardCharsets;
import java.nio.file.Files;
import java.nio.file.Path;
import java.util.ArrayList;
import java.util.Arrays;
import java.util.List;
import java.util.Map;
import java.util.Set;
import java.util.TreeMap;
import java.util.TreeSet;
import java.util.regex.Matcher;
import java.util.regex.Pattern;

/** The face of the document, and the rules of LANGUAGE.md that can be seen from outside or from the text. */
public final class LanguageTest {
    private static final Due due = new Due();
    private static final String[] FACE = {
        "int bank(int,int,int)", "int target(int,int)", "int air(int)", "int hoses(int)",
        "int feed(int,int,int,int,int)", "int end(int)", "int book()", "int flow(int)", "int price(int,int)",
        "boolean closed(int,boolean)", "boolean sensor(int,int,boolean)", "int car(int,int,int)", "int pass(int)",
        "int reading(int,int)", "int slip(int)", "int best(int,int,int,int)", "int bestOf(int,int)",
        "int banks(int,int)", "int cars(int,int)", "int count(int)",
    };
    /** Methods of BEST that call one another; their depth is carried as an argument. */
    private static final Set<String> RECURSIVE = Set.of("search", "drawAndGoOn");

    /** The only methods that make an object, each at most as often as the document has BANKS and CARS. */
    private static final Set<String> MAKERS = Set.of("bank", "car");

    public static void main(String[] args) throws Exception {
        face();
        insides();
        library();
        String code = withoutComments(
                Files.readString(Path.of("src/main/java/GasYard.java"), StandardCharsets.ISO_8859_1));
        words(code);
        methods(code);
        due.end();
    }

    private static void face() throws Exception {
        due.says("1, the face");
        Set<String> wanted = new TreeSet<>(Arrays.asList(FACE));
        Set<String> found = new TreeSet<>();
        for (Method method : GasYard.class.getDeclaredMethods()) {
            if (!Modifier.isPrivate(method.getModifiers())) {
                String types = Arrays.toString(method.getParameterTypes()).replaceAll("[\\[\\] ]", "");
                found.add(method.getReturnType() + " " + method.getName() + "(" + types + ")");
                holds("public: " + method, Modifier.isPublic(method.getModifiers()));
            }
        }
        holds("the methods are those of the document: " + found, found.equals(wanted));
        holds("public and final", GasYard.class.getModifiers() == (Modifier.PUBLIC | Modifier.FINAL));
        holds("one constructor", GasYard.class.getDeclaredConstructors().length == 1
                && GasYard.class.getConstructor() != null);
        for (var field : GasYard.class.getDeclaredFields()) {
            holds("field " + field, Modifier.isPrivate(field.getModifiers()) || field.getName().equals("NONE"));
        }
    }

    private static List<Class<?>> classes() {
        List<Class<?>> all = new ArrayList<>(List.of(GasYard.class.getDeclaredClasses()));
        all.add(GasYard.class);
        return all;
    }

    private static void insides() {
        Set<String> names = new TreeSet<>();
        for (String method : FACE) {
            names.add(method.replaceAll("^\\w+ |\\(.*", ""));
        }
        due.says("11, at most some twelve classes");
        holds("classes", classes().size() <= 12);
        for (Class<?> one : classes()) {
            due.says("1, 2, classes inside are static and not public");
            holds("" + one, one == GasYard.class || Modifier.isStatic(one.getModifiers())
                    && !Modifier.isPublic(one.getModifiers()) && one.getDeclaredClasses().length == 0);
            for (Method method : one.getDeclaredMethods()) {
                due.says("1, no private method bears the name of a public one");
                boolean isPublic = one == GasYard.class && Modifier.isPublic(method.getModifiers());
                holds("" + method, isPublic || !names.contains(method.getName()));
                due.says("11, at most seven parameters");
                holds("" + method, method.getParameterCount() <= 7);
            }
            long fields = Arrays.stream(one.getDeclaredFields())
                    .filter(field -> !Modifier.isStatic(field.getModifiers())).count();
            due.says("11, some twenty fields beside its constants");
            holds("" + one, fields <= 20);
            for (var field : one.getDeclaredFields()) {
                due.says("5, static fields are final constants");
                holds("" + field, !Modifier.isStatic(field.getModifiers()) || Modifier.isFinal(field.getModifiers())
                        && (field.getType().isPrimitive() || field.getType() == String.class));
                due.says("3, no object arrays of two dimensions");
                Class<?> part = field.getType().getComponentType();
                holds("" + field, part == null || !part.isArray() || part.getComponentType().isPrimitive());
            }
        }
    }

    /** What the compiled classes call outside themselves: only what rule 4 lists. */
    private static void library() throws IOException {
        due.says("4, the library");
        Set<String> allowed = Set.of("java/lang/Object.<init>", "java/lang/String.length", "java/lang/String.charAt",
                "java/lang/Math.abs", "java/lang/Math.min", "java/lang/Math.max");
        for (Class<?> one : classes()) {
            for (String call : callsOutside(one)) {
                holds(one.getName() + " calls " + call, allowed.contains(call));
            }
        }
    }

    private static List<String> callsOutside(Class<?> one) throws IOException {
        String file = one.getName() + ".class";
        try (InputStream in = LanguageTest.class.getResourceAsStream(file)) {
            DataInputStream data = new DataInputStream(in);
            data.skipBytes(8);
            int size = data.readUnsignedShort();
            String[] texts = new String[size];
            int[][] pairs = new int[size][];
            int[] tags = new int[size];
            for (int k = 1; k < size; k++) {
                tags[k] = data.readUnsignedByte();
                switch (tags[k]) {
                    case 1 -> texts[k] = data.readUTF();
                    case 7, 8, 16, 19, 20 -> pairs[k] = new int[] {data.readUnsignedShort()};
                    case 9, 10, 11, 12, 17, 18 ->
                        pairs[k] = new int[] {data.readUnsignedShort(), data.readUnsignedShort()};
                    case 15 -> data.skipBytes(3);
                    case 3, 4 -> data.skipBytes(4);
                    default -> {
                        data.skipBytes(8);
                        k++;
                    }
                }
            }
            List<String> calls = new ArrayList<>();
            for (int k = 1; k < size; k++) {
                if (tags[k] == 10 || tags[k] == 11 || tags[k] == 18) {
                    String owner = tags[k] == 18 ? "a lambda or a joined text" : texts[pairs[pairs[k][0]][0]];
                    if (!owner.startsWith("GasYard")) {
                        calls.add(owner + "." + texts[pairs[pairs[k][1]][0]]);
                    }
                }
            }
            return calls;
        }
    }

    private static String withoutComments(String text) {
        return text.replaceAll("(?s)/\\*.*?\\*/", "").replaceAll("//[^\n]*", "");
    }

    private static void words(String code) {
        due.says("4, 6, 9, 12, 13, what the text must not have");
        List<String> banned = List.of("\\bthrow", "\\btry\\b", "\\bcatch\\b", "\\bfinally\\b", "\\bsynchronized\\b",
                "\\bassert\\b", "->", "::", "\\bimport\\b", "\\bpackage\\b", "Exact\\b", "\\bSystem\\.(?!arraycopy)",
                "\\bstatic \\{", "[^\\x00-\\x7f]", "\\bequals\\b|\\bhashCode\\b|\\btoString\\b", "while \\(true",
                "for \\(;;", "\\bfloat\\b|\\bdouble\\b", "\\bObject\\b", "\\bprotected\\b", "\\bnative\\b");
        for (String pattern : banned) {
            holds("none of " + pattern, !Pattern.compile(pattern).matcher(code).find());
        }
    }

    /** Each method's length in lines, and how deep calls go from it, by the names that its body calls. */
    private static void methods(String code) {
        Map<String, Set<String>> calls = new TreeMap<>();
        Matcher head = Pattern.compile("(?m)^ {4,8}(?:(?:public|private|static) )*\\w+(?:\\[\\])* (\\w+)\\([^)]*\\) \\{$")
                .matcher(code);
        while (head.find()) {
            int close = closing(code, head.end());
            String body = code.substring(head.end(), close);
            due.says("11, methods stay short");
            holds(head.group(1), body.split("\n").length <= 60);
            due.says("12, what a run makes is kept small: what is needed again is made in constructors");
            holds(head.group(1) + " makes no object", MAKERS.contains(head.group(1)) || !body.contains("new "));
            Set<String> called = calls.computeIfAbsent(head.group(1), name -> new TreeSet<>());
            Matcher call = Pattern.compile("\\b(\\w+)\\(").matcher(body);
            while (call.find()) {
                called.add(call.group(1));
            }
        }
        holds("methods are found", calls.size() > 50);
        due.says("8, 11, calls that are no recursion go at most eight deep");
        for (String name : calls.keySet()) {
            int depth = depth(name, calls, new ArrayList<>());
            holds(name + " goes " + depth + " deep", depth <= 8);
        }
    }

    private static int closing(String code, int from) {
        int open = 1;
        int at = from;
        while (open > 0) {
            open += code.charAt(at) == '{' ? 1 : code.charAt(at) == '}' ? -1 : 0;
            at++;
        }
        return at - 1;
    }

    private static int depth(String name, Map<String, Set<String>> calls, List<String> open) {
        if (open.contains(name)) {
            holds("recursion of " + name + " is meant: " + open, RECURSIVE.contains(name));
            return 0;
        }
        open.add(name);
        int deepest = 0;
        for (String called : calls.get(name)) {
            if (calls.containsKey(called)) {
                deepest = Math.max(deepest, depth(called, calls, open));
            }
        }
        open.remove(name);
        return 1 + deepest;
    }

    private static void holds(String what, boolean is) {
        due.is(what, is, true);
    }
}

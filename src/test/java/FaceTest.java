import java.lang.reflect.Constructor;
import java.lang.reflect.Field;
import java.lang.reflect.Method;
import java.lang.reflect.Modifier;
import java.nio.file.Files;
import java.nio.file.Path;
import java.util.Arrays;
import java.util.TreeSet;
import java.util.regex.Pattern;

/** The public face of the document, and those rules of LANGUAGE.md that can be told without a compiler. */
public final class FaceTest {
    private static final Check check = new Check();
    private static final String[] FACE = {
        "feed(int, int, int, int, int)", "end(int)", "path()", "tree(int)", "put(int)", "drop(int)",
        "file(int, int, int)", "byteOf(int, int, int, int)", "same(int, int)", "clear()", "patch(int, int)",
        "step(int, int, int)", "stepByte(int, int, int, int)", "piece(int, int, int, int, int)",
        "apply(int, int, boolean)", "conflict(int, int)", "inverse(int)", "chain(int, int)", "power(int)",
        "install(int)", "open()", "slot(int, int)", "count(int)"};
    private static final String[] FORBIDDEN = {"throw", "throws", "try", "catch", "synchronized", "assert", "import",
        "package", "System", "Thread", "volatile", "native", "->", "::", "Exact", "hashCode", "toString"};

    public static void main(String[] args) throws Exception {
        members();
        constants();
        insideClasses();
        source();
        check.finish();
    }

    private static void members() {
        Class<?> c = PatchChains.class;
        check.due("public and final", Modifier.toString(c.getModifiers()), "public final");
        TreeSet<String> methods = new TreeSet<>();
        for (Method method : c.getDeclaredMethods()) {
            if (!Modifier.isPrivate(method.getModifiers())) {
                String types = Arrays.toString(Arrays.stream(method.getParameterTypes()).map(Class::getName).toArray());
                methods.add(method.getName() + "(" + types.substring(1, types.length() - 1) + ")");
                check.due(method.getName(), Modifier.toString(method.getModifiers()), "public");
                check.due(method.getName() + " answers", method.getReturnType(), int.class);
            }
        }
        check.due("methods", methods, new TreeSet<>(Arrays.asList(FACE)));
        Constructor<?>[] constructors = c.getDeclaredConstructors();
        check.due("constructors", constructors.length, 1);
        check.due("constructor", constructors[0].toString(), "public PatchChains()");
    }

    private static void constants() throws Exception {
        TreeSet<String> fields = new TreeSet<>();
        for (Field field : PatchChains.class.getDeclaredFields()) {
            if (!Modifier.isPrivate(field.getModifiers())) {
                fields.add(Modifier.toString(field.getModifiers()) + " " + field.getName() + " " + field.getInt(null));
            }
            if (Modifier.isStatic(field.getModifiers())) {
                check.due(field + " is final", Modifier.isFinal(field.getModifiers()), true);
            }
        }
        check.due("constants", fields, new TreeSet<>(Arrays.asList("public static final BAD -1",
            "public static final NONE -2", "public static final FULL -3", "public static final DOWN -4")));
    }

    private static void insideClasses() {
        Class<?>[] inside = PatchChains.class.getDeclaredClasses();
        check.due("some twelve classes", inside.length + 1 <= 12, true);
        TreeSet<String> names = new TreeSet<>();
        for (String method : FACE) {
            names.add(method.substring(0, method.indexOf('(')));
        }
        for (Class<?> c : inside) {
            check.due(c + " is private and static", Modifier.toString(c.getModifiers()), "private static final");
            check.due(c + " has twenty fields at most", c.getDeclaredFields().length <= 20, true);
            for (Method method : c.getDeclaredMethods()) {
                check.due(method + " has no name of the face", names.contains(method.getName()), false);
                check.due(method + " takes seven at most", method.getParameterCount() <= 7, true);
            }
        }
    }

    private static void source() throws Exception {
        String root = System.getProperty("project.root", ".");
        String text = Files.readString(Path.of(root, "src/main/java/PatchChains.java"));
        String code = text.replaceAll("(?s)/\\*.*?\\*/", "").replaceAll("//[^\n]*", "");
        for (String word : FORBIDDEN) {
            boolean letters = Character.isLetter(word.charAt(0));
            Pattern pattern = Pattern.compile(letters ? "\\b" + word + "\\b" : Pattern.quote(word));
            check.due("no " + word, pattern.matcher(code).find(), false);
        }
        check.due("no text at all", code.indexOf('"'), -1);
    }
}

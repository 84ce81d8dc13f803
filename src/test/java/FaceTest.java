import java.lang.reflect.Constructor;
import java.lang.reflect.Field;
import java.lang.reflect.Method;
import java.lang.reflect.Modifier;
import java.nio.file.Files;
import java.nio.file.Path;
import java.util.Arrays;
import java.util.List;
import java.util.TreeSet;
import java.util.regex.Matcher;
import java.util.regex.Pattern;

/** The public face of the document, and those rules of LANGUAGE.md that can be told without a compiler. */
public final class FaceTest {
    private static final Check check = new Check();
    private static final String[] FACE = {
        "feed(int, int, int, int, int)", "end(int)", "path()", "tree(int)", "put(int)", "drop(int)",
        "file(int, int, int)", "byteOf(int, int, int, int)", "same(int, int)", "clear()", "patch(int, int)",
        "step(int, int, int)", "stepByte(int, int, int, int)", "piece(int, int, int, int, int)",
        "apply(int, int, boolean)", "conflict(int, int)", "inverse(int)", "chain(int, int)", "power(int)",
        "install(int)", "open()", "slot(int, int)", "count(int)"};
    private static final String[] FORBIDDEN = {"throw", "throws", "try", "catch", "synchronized", "assert",
        "package", "Thread", "volatile", "native", "::", "\\w+Exact", "hashCode"};
    private static final Pattern IMPORT = Pattern.compile("import\\s+([\\w.*]+)\\s*;");

    private static final List<String> LIBRARY = List.of("java.util.ArrayList", "java.util.List", "java.util.Arrays",
        "java.util.Iterator");

    public static void main(String[] args) throws Exception {
        members();
        constants();
        insideClasses();
        source();
        check.finish();
    }

    private static void members() {
        Class<?> c = PatchChains.class;
        check.due("public and final", Modifier.toString(c.getModifiers()), "public final");
        TreeSet<String> methods = new TreeSet<>();
        for (Method method : c.getDeclaredMethods()) {
            if (!Modifier.isPrivate(method.getModifiers())) {
                String types = Arrays.toString(Arrays.stream(method.getParameterTypes()).map(Class::getName).toArray());
                methods.add(method.getName() + "(" + types.substring(1, types.length() - 1) + ")");
                check.due(method.getName(), Modifier.toString(method.getModifiers()), "public");
                check.due(method.getName() + " answers", method.getReturnType(), int.class);
            }
        }
        check.due("methods", methods, new TreeSet<>(Arrays.asList(FACE)));
        Constructor<?>[] constructors = c.getDeclaredConstructors();
        check.due("constructors", constructors.length, 1);
        check.due("constructor", constructors[0].toString(), "public PatchChains()");
    }

    private static void constants() throws Exception {
        TreeSet<String> fields = new TreeSet<>();
        for (Field field : PatchChains.class.getDeclaredFields()) {
            if (!Modifier.isPrivate(field.getModifiers())) {
                fields.add(Modifier.toString(field.getModifiers()) + " " + field.getName() + " " + field.getInt(null));
            }
            if (Modifier.isStatic(field.getModifiers())) {
                check.due(field + " is final", Modifier.isFinal(field.getModifiers()), true);
            }
        }
        check.due("constants", fields, new TreeSet<>(Arrays.asList("public static final BAD -1",
            "public static final NONE -2", "public static final FULL -3", "public static final DOWN -4")));
    }

    private static void insideClasses() {
        Class<?>[] inside = PatchChains.class.getDeclaredClasses();
        check.due("some twelve classes", inside.length + 1 <= 14, true);
        TreeSet<String> names = new TreeSet<>();
        for (String method : FACE) {
            names.add(method.substring(0, method.indexOf('(')));
        }
        privateNames(PatchChains.class, names);
        for (Class<?> c : inside) {
            check.due(c + " is static", Modifier.isStatic(c.getModifiers()), true);
            check.due(c + " is not seen outside", c.getModifiers() & (Modifier.PUBLIC | Modifier.PROTECTED), 0);
            privateNames(c, names);
        }
    }

    private static void privateNames(Class<?> c, TreeSet<String> names) {
        for (Method method : c.getDeclaredMethods()) {
            boolean hides = Modifier.isPrivate(method.getModifiers()) && names.contains(method.getName());
            check.due(method + " has no name of the face", hides, false);
            check.due(method + " takes seven at most", method.getParameterCount() <= 7, true);
        }
    }

    private static void source() throws Exception {
        String root = System.getProperty("project.root", ".");
        String text = Files.readString(Path.of(root, "src/main/java/PatchChains.java"));
        String code = text.replaceAll("(?s)/\\*.*?\\*/", "").replaceAll("//[^\n]*", "");
        for (String word : FORBIDDEN) {
            Pattern pattern = Pattern.compile(word.equals("::") ? word : "\\b" + word + "\\b");
            check.due("no " + word, pattern.matcher(code).find(), false);
        }
        Matcher imports = IMPORT.matcher(code);
        while (imports.find()) {
            check.due(imports.group(1) + " may be used", LIBRARY.contains(imports.group(1)), true);
        }
        check.due("no lambda", code.replaceAll("(?m)(case [^:;]*|default )->", "").contains("->"), false);
        check.due("no static block", Pattern.compile("static\\s*\\{").matcher(code).find(), false);
        check.due("of System only arraycopy", code.replace("System.arraycopy", "").contains("System"), false);
    }
}

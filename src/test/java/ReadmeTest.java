import java.lang.reflect.Method;
import java.lang.reflect.Modifier;
import java.nio.file.Files;
import java.nio.file.Path;
import java.util.TreeSet;
import java.util.regex.Matcher;
import java.util.regex.Pattern;

/** The walk in README.md, on one object: each call has the answer that stands behind it, and no call is left out. */
public final class ReadmeTest {
    private static final Pattern LINE = Pattern.compile("x\\.(\\w+)\\((.*?)\\);\\s*// (-?\\d+)(: .*)?");

    public static void main(String[] args) throws Exception {
        Check check = new Check();
        TreeSet<String> shown = new TreeSet<>();
        PatchChains x = new PatchChains();
        for (String line : Files.readAllLines(Path.of(System.getProperty("project.root", "."), "README.md"))) {
            if (!line.startsWith("x.")) {
                continue;
            }
            Matcher matcher = LINE.matcher(line);
            if (matcher.matches()) {
                shown.add(matcher.group(1));
                Call call = new Call(matcher.group(1), numbers(matcher.group(2)));
                check.due(line, call.on(x), Integer.parseInt(matcher.group(3)));
            } else {
                check.due(line, "not understood", "a call and its answer");
            }
        }
        check.due("calls that are shown", shown, face());
        check.finish();
    }

    private static int[] numbers(String arguments) {
        if (arguments.isEmpty()) {
            return new int[0];
        }
        String[] texts = arguments.split(", ");
        int[] numbers = new int[texts.length];
        for (int i = 0; i < texts.length; i++) {
            boolean truth = texts[i].equals("true") || texts[i].equals("false");
            numbers[i] = truth ? (texts[i].equals("true") ? 1 : 0) : Integer.decode(texts[i]);
        }
        return numbers;
    }

    private static TreeSet<String> face() {
        TreeSet<String> names = new TreeSet<>();
        for (Method method : PatchChains.class.getDeclaredMethods()) {
            if (Modifier.isPublic(method.getModifiers())) {
                names.add(method.getName());
            }
        }
        return names;
    }
}

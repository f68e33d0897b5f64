import java.io.IOException;
import java.lang.reflect.Method;
import java.nio.file.Files;
import java.nio.file.Path;
import java.util.regex.Matcher;
import java.util.regex.Pattern;

/** The example of README.md: each of its calls answers the number that is written behind it. */
public final class ReadmeTest {
    private static final Pattern CALL = Pattern.compile("tree\\.(\\w+)\\((.*?)\\);\\s*// (-?\\d+)(:.*)?");
    private static final int LEAST_CALLS = 12;

    private static int wrong = 0;

    public static void main(String[] args) throws IOException, ReflectiveOperationException {
        OverlayTree tree = new OverlayTree();
        int calls = 0;
        for (String line : Files.readAllLines(Path.of("README.md"))) {
            if (line.startsWith("tree.")) {
                check(tree, line);
                calls++;
            }
        }
        if (calls < LEAST_CALLS) {
            tell("README.md shows only " + calls + " calls");
        }
        System.out.println(wrong == 0 ? "all answers are as due" : wrong + " answers are not as due");
        if (wrong != 0) {
            System.exit(1);
        }
    }

    private static void check(OverlayTree tree, String line) throws ReflectiveOperationException {
        Matcher call = CALL.matcher(line);
        if (!call.matches()) {
            tell("no call with its answer: " + line);
            return;
        }
        Object got = methodNamed(call.group(1)).invoke(tree, numbersOf(call.group(2)));
        if (!got.equals(Integer.valueOf(call.group(3)))) {
            tell(line + ": answered " + got);
        }
    }

    private static Method methodNamed(String name) throws NoSuchMethodException {
        for (Method method : OverlayTree.class.getMethods()) {
            if (method.getName().equals(name)) {
                return method;
            }
        }
        throw new NoSuchMethodException(name);
    }

    private static Object[] numbersOf(String text) throws ReflectiveOperationException {
        String[] words = text.isEmpty() ? new String[0] : text.split(", ");
        Object[] numbers = new Object[words.length];
        for (int place = 0; place < words.length; place++) {
            numbers[place] = words[place].startsWith("OverlayTree.")
                ? OverlayTree.class.getField(words[place].substring("OverlayTree.".length())).getInt(null)
                : Integer.valueOf(words[place]);
        }
        return numbers;
    }

    private static void tell(String fault) {
        wrong++;
        System.out.println(fault);
    }
}

import java.io.IOException;
import java.lang.reflect.Method;
import java.lang.reflect.Modifier;
import java.nio.file.Files;
import java.nio.file.Path;
import java.util.TreeSet;
import java.util.regex.Matcher;
import java.util.regex.Pattern;

/**
 * Makes the calls of README.md's example and holds the answers against those written behind them.
 * Run from the project's root.
 */
public final class ReadmeExample {
    private static final Pattern CALL = Pattern.compile("^tree\\.(\\w+)\\(([^)]*)\\); +// (-?\\d+)(:.*)?$");

    private static int wrong = 0;

    private static void tell(String what) {
        wrong++;
        System.out.println("README.md: " + what);
    }

    private static TreeSet<String> namesOfTheFace() {
        TreeSet<String> names = new TreeSet<>();
        for (Method m : BufferedTree.class.getDeclaredMethods()) {
            if (Modifier.isPublic(m.getModifiers())) {
                names.add(m.getName());
            }
        }
        return names;
    }

    private static Object answer(BufferedTree tree, String name, String arguments)
            throws ReflectiveOperationException {
        String[] words = arguments.isEmpty() ? new String[0] : arguments.split(", ");
        Class<?>[] types = new Class<?>[words.length];
        Object[] numbers = new Object[words.length];
        for (int i = 0; i < words.length; i++) {
            types[i] = int.class;
            numbers[i] = Integer.valueOf(words[i]);
        }
        return BufferedTree.class.getMethod(name, types).invoke(tree, numbers);
    }

    public static void main(String[] args) throws IOException, ReflectiveOperationException {
        TreeSet<String> notShown = namesOfTheFace();
        BufferedTree tree = new BufferedTree();
        for (String line : Files.readAllLines(Path.of("README.md"))) {
            Matcher call = CALL.matcher(line);
            if (call.matches()) {
                notShown.remove(call.group(1));
                String got = String.valueOf(answer(tree, call.group(1), call.group(2)));
                if (!got.equals(call.group(3))) {
                    tell("answered " + got + ": " + line);
                }
            } else if (line.startsWith("tree.")) {
                tell("a call without its answer: " + line);
            }
        }
        if (!notShown.isEmpty()) {
            tell("calls that the example does not show: " + notShown);
        }
        System.out.println(wrong == 0 ? "the example is as due" : wrong + " lines are not as due");
        if (wrong != 0) {
            System.exit(1);
        }
    }
}

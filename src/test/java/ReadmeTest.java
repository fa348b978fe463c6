import java.io.IOException;
import java.lang.reflect.Method;
import java.lang.reflect.Modifier;
import java.nio.file.Files;
import java.nio.file.Path;
import java.util.Arrays;
import java.util.Set;
import java.util.TreeSet;
import java.util.regex.Matcher;
import java.util.regex.Pattern;

/** What README.md shows of the class holds: each call in it answers what its comment begins with. */
public final class ReadmeTest {
    private static final Path README = Path.of("README.md");
    private static final String NEW_STORE = "OnceStore store = new OnceStore();";
    private static final Pattern CALL = Pattern.compile(
            "store\\.(\\w+)\\(((?:-?\\d+(?:, -?\\d+)*)?)\\);(?:\\s+// (throws \\w+|-?\\d+|true|false)?.*)?");

    private final Set<String> shown = new TreeSet<>();
    private Run run = null;

    public static void main(String[] args) throws IOException {
        ReadmeTest test = new ReadmeTest();
        test.tryBlocks();
        test.dueAllOfTheFace();
        Run.end();
    }

    private void tryBlocks() throws IOException {
        boolean inBlock = false;
        int number = 0;
        for (String line : Files.readAllLines(README)) {
            number++;
            if (line.startsWith("```")) {
                inBlock = !inBlock;
                run = null;
            } else if (inBlock) {
                tryLine("README.md, line " + number, line);
            }
        }
    }

    private void tryLine(String title, String line) {
        Matcher call = CALL.matcher(line);
        if (line.equals(NEW_STORE)) {
            run = new Run("README.md");
        } else if (run != null && call.matches()) {
            tryCall(title, call.group(1), numbers(call.group(2)), call.group(3));
        } else {
            Run.report(title + " is no call on a store: " + line);
        }
    }

    private void tryCall(String title, String name, int[] args, String answer) {
        shown.add(name);
        if (answer != null) {
            run.due(answer.replace(' ', '.'), name, args);
        } else if (answersNothing(name)) {
            run.due("done", name, args);
        } else {
            Run.report(title + " does not say what " + name + " answers");
        }
    }

    private void dueAllOfTheFace() {
        for (Method method : OnceStore.class.getDeclaredMethods()) {
            if (Modifier.isPublic(method.getModifiers()) && !shown.contains(method.getName())) {
                Run.report("README.md does not show " + method.getName());
            }
        }
    }

    private static boolean answersNothing(String name) {
        return Arrays.stream(OnceStore.class.getDeclaredMethods())
                .anyMatch(method -> method.getName().equals(name) && method.getReturnType() == void.class);
    }

    private static int[] numbers(String list) {
        return list.isEmpty() ? new int[0]
                : Arrays.stream(list.split(", ")).mapToInt(Integer::parseInt).toArray();
    }
}

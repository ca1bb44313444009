import java.io.IOException;
import java.lang.reflect.InvocationTargetException;
import java.lang.reflect.Method;
import java.nio.file.Files;
import java.nio.file.Path;
import java.util.ArrayList;
import java.util.HashSet;
import java.util.List;
import java.util.Set;
import java.util.regex.Matcher;
import java.util.regex.Pattern;

/**
 * README.md, read from the project's root: its calls have the answers that it writes beside them, and the tests
 * that it names are there. The calls are taken from the text itself, so the two can't drift apart.
 */
public final class ReadmeTest {
    private static final Check CHECK = new Check();
    private static final Pattern BLOCK = Pattern.compile("^```java\n(.*?)^```$", Pattern.DOTALL | Pattern.MULTILINE);
    private static final Pattern MAKING = Pattern.compile("HoistPlanner p = new HoistPlanner\\(\\);( *// .*)?");
    private static final Pattern CALL = Pattern.compile("p\\.(\\w+)\\(([^)]*)\\);(?: *// (.*))?");
    private static final Pattern NAME = Pattern.compile("`(\\w+Test)(?:\\.(\\w+))?`");
    private static final String VOID = "void";

    private static HoistPlanner planner;

    public static void main(String[] args) throws IOException, ReflectiveOperationException {
        String readme = Files.readString(Path.of("README.md"));
        callsHaveTheirAnswers(exampleLines(readme));
        namedTestsAreThere(readme);
        allTestsAreNamed(readme);
        CHECK.end();
    }

    private static List<String> exampleLines(String readme) {
        List<String> lines = new ArrayList<>();
        Matcher blocks = BLOCK.matcher(readme);
        while (blocks.find()) {
            lines.addAll(blocks.group(1).lines().toList());
        }
        return lines;
    }

    private static void callsHaveTheirAnswers(List<String> lines) throws ReflectiveOperationException {
        Set<String> called = new HashSet<>();
        for (String line : lines) {
            Matcher call = CALL.matcher(line);
            if (MAKING.matcher(line).matches()) {
                planner = new HoistPlanner();
            } else if (call.matches()) {
                called.add(call.group(1));
                String remark = call.group(3) == null ? "" : call.group(3);
                String answer = answerOf(call.group(1), call.group(2));
                CHECK.dueText("README.md: " + line.replaceFirst(";.*", ""), answer, written(remark, answer));
            } else {
                CHECK.dueText("README.md: " + line, "no call", "a call");
            }
        }
        for (Method method : HoistPlanner.class.getMethods()) {
            if (method.getDeclaringClass() == HoistPlanner.class) {
                CHECK.due(method.getName() + " is in the example", called.contains(method.getName()) ? 1 : 0, 1);
            }
        }
    }

    /** The number as it is written in README.md, "throws" with the exception's name, or that there is none. */
    private static String answerOf(String name, String written) throws ReflectiveOperationException {
        Method method = methodNamed(name);
        String[] texts = written.isEmpty() ? new String[0] : written.split(", ");
        Object[] arguments = new Object[texts.length];
        for (int k = 0; k < texts.length; k++) {
            boolean isNumber = method.getParameterTypes()[k] == int.class;
            arguments[k] = isNumber ? (Object) Integer.valueOf(texts[k]) : (Object) Boolean.valueOf(texts[k]);
        }
        try {
            Object answer = method.invoke(planner, arguments);
            return answer == null ? VOID : answer.equals(HoistPlanner.NONE) ? "NONE" : answer.toString();
        } catch (InvocationTargetException e) {
            return "throws " + e.getCause().getClass().getSimpleName();
        }
    }

    private static Method methodNamed(String name) throws NoSuchMethodException {
        for (Method method : HoistPlanner.class.getMethods()) {
            if (method.getName().equals(name)) {
                return method;
            }
        }
        throw new NoSuchMethodException(name);
    }

    /** What stands first in a remark; beside a call without an answer it may be anything but an answer. */
    private static String written(String remark, String answer) {
        String first = remark.split(":", 2)[0];
        boolean isAnswer = first.matches("-?\\d+|NONE|throws \\w+");
        return isAnswer || !answer.equals(VOID) ? first : VOID;
    }

    private static void namedTestsAreThere(String readme) {
        Matcher names = NAME.matcher(readme);
        while (names.find()) {
            CHECK.due(names.group() + " is there", isThere(names.group(1), names.group(2)) ? 1 : 0, 1);
        }
    }

    private static boolean isThere(String test, String method) {
        try {
            for (Method there : Class.forName(test).getDeclaredMethods()) {
                if (method == null || there.getName().equals(method)) {
                    return true;
                }
            }
            return false;
        } catch (ClassNotFoundException e) {
            return false;
        }
    }

    private static void allTestsAreNamed(String readme) throws IOException {
        try (var files = Files.list(Path.of("src/test/java"))) {
            for (Path file : files.sorted().toList()) {
                String name = file.getFileName().toString().replace(".java", "");
                if (name.endsWith("Test")) {
                    CHECK.due(name + " is named in README.md", readme.contains("`" + name + "`") ? 1 : 0, 1);
                }
            }
        }
    }
}

import java.lang.reflect.InvocationTargetException;
import java.lang.reflect.Method;
import java.nio.file.DirectoryStream;
import java.nio.file.Files;
import java.nio.file.Path;
import java.util.HashMap;
import java.util.Map;
import java.util.regex.Matcher;
import java.util.regex.Pattern;

/** README.md is true: its calls answer what it says, and the project's files that it names are there. */
public final class ReadmeTest extends Checks {
    private static final Pattern CALL =
            Pattern.compile("(?:int (\\w+) = )?runner\\.(\\w+)\\(([^)]*)\\); *// (throws \\w+|-?\\w+): .*");
    private static final Pattern FILE = Pattern.compile("(?<![\\w/])(?:src|\\.ci)/[\\w./]*\\w");
    private static final Pattern TEST = Pattern.compile("\\w+Test\\b");

    public static void main(String[] args) throws Exception {
        String readme = Files.readString(Path.of("README.md"));
        int calls = 0;
        for (String block : readme.split("```")) {
            calls += block.startsWith("java\n") ? answers(block.split("\n")) : 0;
        }
        due("that README.md has calls", calls > 0, true);
        namesFiles(readme);
        namesTests(readme);
        end();
    }

    /** Makes the calls of a block on one object; returns how many they were. */
    private static int answers(String[] lines) {
        due("the first line", lines[1], "PipelineRunner runner = new PipelineRunner();");
        PipelineRunner runner = new PipelineRunner();
        Map<String, Object> values = new HashMap<>(Map.of("true", true, "false", false));
        for (int i = 2; i < lines.length; i++) {
            Matcher call = CALL.matcher(lines[i]);
            if (!call.matches()) {
                due("a line of README.md", lines[i], "a call and its answer");
                continue;
            }
            Object answer = answer(runner, call.group(2), call.group(3), values);
            due(lines[i], "" + answer, call.group(4));
            if (call.group(1) != null) {
                values.put(call.group(1), answer);
            }
        }
        return lines.length - 2;
    }

    private static Object answer(PipelineRunner runner, String name, String words, Map<String, Object> values) {
        String[] each = words.isEmpty() ? new String[0] : words.split(", ");
        Object[] arguments = new Object[each.length];
        for (int i = 0; i < each.length; i++) {
            arguments[i] = values.containsKey(each[i]) ? values.get(each[i]) : Integer.valueOf(each[i]);
        }
        for (Method method : PipelineRunner.class.getMethods()) {
            if (method.getName().equals(name)) {
                return answer(method, runner, arguments);
            }
        }
        return "no method " + name;
    }

    private static Object answer(Method method, PipelineRunner runner, Object[] arguments) {
        try {
            Object answer = method.invoke(runner, arguments);
            return method.getReturnType() == void.class ? "nothing" : answer;
        } catch (InvocationTargetException thrown) {
            return "throws " + thrown.getCause().getClass().getSimpleName();
        } catch (IllegalAccessException | IllegalArgumentException notCallable) {
            return notCallable;
        }
    }

    private static void namesFiles(String readme) {
        Matcher file = FILE.matcher(readme);
        while (file.find()) {
            due("that there is " + file.group(), Files.exists(Path.of(file.group())), true);
        }
    }

    /** Each test is told of, and none that is not there. */
    private static void namesTests(String readme) throws Exception {
        Path folder = Path.of("src/test/java");
        try (DirectoryStream<Path> tests = Files.newDirectoryStream(folder, "*.java")) {
            for (Path test : tests) {
                String name = test.getFileName().toString().replace(".java", "");
                due("that README.md tells of " + name, readme.contains("- `" + name) || readme.contains("`, `" + name)
                        || readme.contains("and `" + name), true);
            }
        }
        Matcher named = TEST.matcher(readme);
        while (named.find()) {
            due("that there is " + named.group(), Files.exists(folder.resolve(named.group() + ".java")), true);
        }
    }
}

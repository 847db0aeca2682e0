import java.io.IOException;
import java.lang.reflect.InvocationTargetException;
import java.lang.reflect.Method;
import java.lang.reflect.Modifier;
import java.nio.file.Files;
import java.nio.file.Path;
import java.util.List;
import java.util.regex.Matcher;
import java.util.regex.Pattern;
import java.util.stream.Collectors;
import java.util.stream.Stream;

/** README.md says what is so: its example answers what stands beside it, and it names every method and test. */
public final class ReadmeTest {
    private static final Pattern CALL = Pattern.compile("x\\.(\\w+)\\((.*?)\\);\\s+// (-?\\d+).*");

    public static void main(String[] args) throws IOException, IllegalAccessException, InvocationTargetException {
        String readme = Files.readString(Path.of("README.md"));
        example(readme);
        namesEveryMethod(readme);
        namesEveryTest(readme);
        Checks.finish();
    }

    private static void example(String readme) throws IllegalAccessException, InvocationTargetException {
        String[] lines = readme.substring(readme.indexOf("```java"), readme.indexOf("```\n")).split("\n");
        Checks.dueText("the example's first line", lines[1], "SleepSteps x = new SleepSteps();");
        SleepSteps x = new SleepSteps();
        for (int i = 2; i < lines.length; i++) {
            Matcher call = CALL.matcher(lines[i]);
            if (call.matches()) {
                Checks.due(lines[i], answer(x, call.group(1), call.group(2)), Long.parseLong(call.group(3)));
            } else {
                Checks.due("not a call with its answer: " + lines[i], 1, 0);
            }
        }
        Checks.due("the example has calls", lines.length > 20 ? 1 : 0, 1);
    }

    private static long answer(SleepSteps x, String name, String arguments)
            throws IllegalAccessException, InvocationTargetException {
        String[] texts = arguments.isEmpty() ? new String[0] : arguments.split(", ");
        for (Method method : publicMethods()) {
            if (method.getName().equals(name) && method.getParameterCount() == texts.length) {
                Object[] values = new Object[texts.length];
                for (int i = 0; i < texts.length; i++) {
                    long value = Long.decode(texts[i].replace("L", ""));
                    values[i] = method.getParameterTypes()[i] == int.class ? (Object) (int) value : (Object) value;
                }
                return ((Number) method.invoke(x, values)).longValue();
            }
        }
        Checks.due("no such method: " + name + "(" + arguments + ")", 1, 0);
        return 0;
    }

    private static List<Method> publicMethods() {
        return Stream.of(SleepSteps.class.getDeclaredMethods())
                .filter(method -> Modifier.isPublic(method.getModifiers())).collect(Collectors.toList());
    }

    private static void namesEveryMethod(String readme) {
        for (Method method : publicMethods()) {
            Checks.due("names " + method.getName(), readme.contains("`" + method.getName() + "`") ? 1 : 0, 1);
        }
    }

    private static void namesEveryTest(String readme) throws IOException {
        try (Stream<Path> files = Files.list(Path.of("src/test/java"))) {
            for (Path file : files.collect(Collectors.toList())) {
                String name = file.getFileName().toString().replace(".java", "");
                if (name.endsWith("Test")) {
                    Checks.due("names " + name, readme.contains("| `" + name + "` |") ? 1 : 0, 1);
                }
            }
        }
    }
}

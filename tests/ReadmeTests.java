import java.io.File;
import java.io.IOException;
import java.lang.reflect.Method;
import java.lang.reflect.Modifier;
import java.nio.file.Files;
import java.nio.file.Path;
import java.util.List;
import java.util.regex.Matcher;
import java.util.regex.Pattern;

/** README.md: each line of its examples answers what stands behind it. The argument: the project's place. */
public final class ReadmeTests {
    private static final Pattern CALL = Pattern.compile("^x\\.(\\w+)\\((.*)\\); +// (-?\\d+)(:.*)?$");
    private static final String NEW_OBJECT = "FoldedInHalf x = new FoldedInHalf();";
    private static int wrong = 0;
    private static int calls = 0;

    public static void main(String[] args) throws Exception {
        Path root = Path.of(args.length > 0 ? args[0] : ".");
        List<String> lines = Files.readAllLines(root.resolve("README.md"));
        examples(lines);
        namesEveryCall(String.join("\n", lines));
        namesEveryTest(String.join("\n", lines), root);
        tellsTheCommand(lines, root);
        due(calls > 20, "there are no more than " + calls + " calls in the examples");
        System.out.println(wrong == 0 ? "all that README.md says is so" : wrong + " things are not so");
        if (wrong != 0) {
            System.exit(1);
        }
    }

    private static void due(boolean so, String otherwise) {
        if (!so) {
            wrong++;
            System.out.println(otherwise);
        }
    }

    private static void examples(List<String> lines) throws ReflectiveOperationException {
        FoldedInHalf x = null;
        boolean inExample = false;
        for (String line : lines) {
            if (line.startsWith("```")) {
                inExample = line.equals("```java");
            } else if (inExample && line.equals(NEW_OBJECT)) {
                x = new FoldedInHalf();
            } else if (inExample) {
                Matcher call = CALL.matcher(line);
                if (x == null || !call.matches()) {
                    due(false, "this is no call with an answer: " + line);
                } else {
                    long got = answer(x, call.group(1), call.group(2));
                    due(got == Long.parseLong(call.group(3)), line + " answered " + got);
                }
            }
        }
    }

    private static long answer(FoldedInHalf x, String name, String arguments) throws ReflectiveOperationException {
        calls++;
        Method method = named(name);
        Class<?>[] types = method.getParameterTypes();
        String[] texts = arguments.isEmpty() ? new String[0] : arguments.split(", ");
        Object[] values = new Object[types.length];
        for (int i = 0; i < types.length; i++) {
            long value = texts[i].startsWith("'") ? texts[i].charAt(1) : Long.parseLong(texts[i]);
            values[i] = types[i] == int.class ? (Object) (int) value : (Object) value;
        }
        return ((Number) method.invoke(x, values)).longValue();
    }

    private static Method named(String name) {
        for (Method method : FoldedInHalf.class.getDeclaredMethods()) {
            if (Modifier.isPublic(method.getModifiers()) && method.getName().equals(name)) {
                return method;
            }
        }
        throw new IllegalStateException("README.md calls " + name);
    }

    private static void namesEveryCall(String page) {
        for (Method method : FoldedInHalf.class.getDeclaredMethods()) {
            if (Modifier.isPublic(method.getModifiers())) {
                due(page.contains("`" + method.getName() + "`"), "README.md does not name " + method.getName());
            }
        }
    }

    private static void namesEveryTest(String page, Path root) {
        File[] tests = root.resolve("tests").toFile().listFiles();
        for (File test : tests == null ? new File[0] : tests) {
            due(page.contains("`tests/" + test.getName() + "`"), "README.md does not name " + test.getName());
        }
    }

    private static void tellsTheCommand(List<String> lines, Path root) throws IOException {
        due(lines.contains("bash .ci/run"), "README.md does not say how to run the tests");
        due(Files.isExecutable(root.resolve(".ci/run")), ".ci/run is not there, or can't be run");
    }
}

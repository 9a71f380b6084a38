import java.io.IOException;
import java.lang.reflect.Method;
import java.lang.reflect.Modifier;
import java.nio.file.Files;
import java.nio.file.Path;
import java.util.List;
import java.util.regex.Matcher;
import java.util.regex.Pattern;
import java.util.stream.Collectors;
import java.util.stream.Stream;

/** README.md says what stands: its example answers so, it has every call of the face, and its files are there. */
public final class ReadmeTest {
    private static final Pattern CODE = Pattern.compile("(?s)```java\n(.*?)```");
    private static final Pattern EXAMPLE = Pattern.compile("machine\\.(\\w+)\\((.*)\\); +// (-?\\w+)(:.*)?");
    private static final Pattern QUOTED = Pattern.compile("`([^`\n]+)`");
    private static final Path TESTS = Path.of("src", "test", "java");

    public static void main(String[] args) throws IOException, ReflectiveOperationException {
        String readme = Files.readString(Path.of("README.md"));
        Matcher code = CODE.matcher(readme);
        while (code.find()) {
            runExample(code.group(1));
        }
        List<String> quoted = QUOTED.matcher(code.replaceAll("")).results().map(found -> found.group(1)).collect(Collectors.toList());
        checkCalls(quoted);
        checkFiles(quoted);
        Check.end();
    }

    // ---- the example

    private static void runExample(String code) throws ReflectiveOperationException {
        ThrowModels machine = null;
        for (String line : code.split("\n")) {
            Matcher example = EXAMPLE.matcher(line);
            if (line.equals("ThrowModels machine = new ThrowModels();")) {
                machine = new ThrowModels();
            } else if (machine != null && example.matches()) {
                Check.due(line, answer(machine, example.group(1), example.group(2)), Long.decode(example.group(3)));
            } else {
                Check.wrong("not looked at: " + line);
            }
        }
    }

    private static long answer(ThrowModels machine, String name, String given) throws ReflectiveOperationException {
        String[] told = given.isEmpty() ? new String[0] : given.split(", ");
        for (Method method : ThrowModels.class.getDeclaredMethods()) {
            if (method.getName().equals(name) && method.getParameterCount() == told.length) {
                return ((Number) method.invoke(machine, arguments(method, told))).longValue();
            }
        }
        throw new NoSuchMethodException(name + " with " + told.length + " numbers");
    }

    private static Object[] arguments(Method method, String[] told) {
        Object[] arguments = new Object[told.length];
        for (int i = 0; i < told.length; i++) {
            long number = Long.decode(told[i].replace("L", ""));
            if (method.getParameterTypes()[i] == int.class) {
                arguments[i] = (int) number;
            } else {
                arguments[i] = number;
            }
        }
        return arguments;
    }

    // ---- names

    private static void checkCalls(List<String> quoted) {
        for (Method method : ThrowModels.class.getDeclaredMethods()) {
            if (Modifier.isPublic(method.getModifiers())) {
                long count = quoted.stream().filter(name -> isCallOf(method, name)).count();
                Check.due("README.md on " + method, Math.min(count, 1), 1);
            }
        }
    }

    /** Such as make(kind, cell, n, m), with as many names as there are numbers to give. */
    private static boolean isCallOf(Method method, String quoted) {
        int names = method.getParameterCount();
        String some = names == 0 ? "" : "\\w+(, \\w+){" + (names - 1) + "}";
        return quoted.matches(method.getName() + "\\(" + some + "\\)");
    }

    private static void checkFiles(List<String> quoted) throws IOException {
        for (String name : quoted) {
            if (name.matches("[\\w./]+/[\\w./]+")) {
                Check.due("there is " + name, Files.exists(Path.of(name)) ? 1 : 0, 1);
            }
            if (name.endsWith("Test")) {
                Check.due("there is the test " + name, Files.exists(TESTS.resolve(name + ".java")) ? 1 : 0, 1);
            }
        }
        try (Stream<Path> files = Files.list(TESTS)) {
            for (Path file : files.collect(Collectors.toList())) {
                String name = file.getFileName().toString().replace(".java", "");
                Check.due("README.md on " + file, quoted.contains(name) ? 1 : 0, 1);
            }
        }
    }
}

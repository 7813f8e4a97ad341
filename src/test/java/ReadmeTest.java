import java.io.IOException;
import java.lang.reflect.Field;
import java.lang.reflect.Method;
import java.lang.reflect.Modifier;
import java.nio.file.Files;
import java.nio.file.Path;
import java.util.regex.Matcher;
import java.util.regex.Pattern;
import java.util.stream.Stream;

/** README.md: its example answers what its comments tell, and it leaves no call out. */
public final class ReadmeTest {
    // A line of the example: the call, its arguments, and the answer that its comment begins with.
    private static final Pattern CALL = Pattern.compile("^desk\\.(\\w+)\\((.*)\\); *// ([^:]+): .+$");

    private ReadmeTest() {
    }

    public static void main(String[] args) throws IOException, ReflectiveOperationException {
        Path root = Path.of(args[0]).toAbsolutePath().resolve("../../../..").normalize();
        String readme = Files.readString(root.resolve("README.md"));
        exampleAnswersWhatItTells(exampleOf(readme));
        everyCallAndConstantIsTold(readme);
        everyClassIsTold(readme);
        everyTestIsTold(readme, root.resolve("src/test/java"));
        Due.end();
    }

    private static String exampleOf(String readme) {
        Matcher block = Pattern.compile("(?s)```java\\n(.*?)```").matcher(readme);
        return block.find() ? block.group(1) : "";
    }

    private static void exampleAnswersWhatItTells(String example) throws ReflectiveOperationException {
        SourceDesk desk = new SourceDesk();
        int calls = 0;
        for (String line : example.split("\n")) {
            if (!line.startsWith("desk.")) {
                Due.is(line + " is no call", line.contains("desk."), false);
                continue;
            }
            Matcher call = CALL.matcher(line);
            Due.is(line + " can be read", call.matches(), true);
            if (call.matches()) {
                calls++;
                Due.is(line, answerTo(desk, call.group(1), call.group(2)), dueBy(call.group(3)));
            }
        }
        Due.is("calls of the example are many", calls > 20, true);
        for (Method method : SourceDesk.class.getMethods()) {
            if (method.getDeclaringClass() == SourceDesk.class) {
                Due.is("the example calls " + method.getName(), example.contains("desk." + method.getName() + "("), true);
            }
        }
    }

    private static String answerTo(SourceDesk desk, String name, String arguments) throws ReflectiveOperationException {
        String[] told = arguments.isEmpty() ? new String[0] : arguments.split(", ");
        Object[] given = new Object[told.length];
        Class<?>[] types = new Class<?>[told.length];
        for (int i = 0; i < told.length; i++) {
            types[i] = int.class;
            given[i] = told[i].startsWith("'") ? told[i].charAt(1) : Integer.parseInt(told[i]);
        }
        return SourceDesk.class.getMethod(name, types).invoke(desk, given).toString();
    }

    /** A number or a boolean as it is, a constant by its value. */
    private static String dueBy(String told) throws ReflectiveOperationException {
        boolean constant = told.matches("[A-Z]+");
        return constant ? SourceDesk.class.getField(told).get(null).toString() : told;
    }

    private static void everyCallAndConstantIsTold(String readme) {
        for (Method method : SourceDesk.class.getMethods()) {
            if (method.getDeclaringClass() == SourceDesk.class) {
                isTold(readme, "| `" + method.getName() + "(");
            }
        }
        for (Field field : SourceDesk.class.getFields()) {
            isTold(readme, "`" + field.getName() + "`");
        }
    }

    private static void everyClassIsTold(String readme) {
        for (Class<?> one : SourceDesk.class.getDeclaredClasses()) {
            Due.is(one.getName() + " is private", Modifier.isPrivate(one.getModifiers()), true);
            isTold(readme, "| `" + one.getSimpleName() + "` |");
        }
    }

    private static void everyTestIsTold(String readme, Path tests) throws IOException {
        try (Stream<Path> files = Files.list(tests)) {
            for (Path file : files.toList()) {
                String name = file.getFileName().toString().replace(".java", "");
                if (name.endsWith("Test")) {
                    isTold(readme, "`" + name + "`");
                }
            }
        }
        isTold(readme, "\n.ci/run\n");
    }

    private static void isTold(String readme, String words) {
        Due.is("README.md tells " + words, readme.contains(words), true);
    }
}

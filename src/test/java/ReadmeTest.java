import java.io.IOException;
import java.lang.reflect.Method;
import java.lang.reflect.Modifier;
import java.nio.file.Files;
import java.nio.file.Path;
import java.util.regex.Matcher;
import java.util.regex.Pattern;
import java.util.stream.Stream;

/** README.md: its examples are carried out line by line, and it must name every method and every test. */
public final class ReadmeTest {
    private static final Pattern CALL = Pattern.compile("x\\.(\\w+)\\(([-0-9, ]*)\\); +// (-?\\d+): .*");
    private static final Pattern TEXT = Pattern.compile("type\\(\"(.*)\"\\);");
    private static final Checks C = new Checks();

    private static BoundProofs x = null;
    private static int calls = 0;

    private static long answer(String name, String arguments) throws ReflectiveOperationException {
        String[] parts = arguments.isEmpty() ? new String[0] : arguments.split(", ");
        Class<?>[] types = new Class<?>[parts.length];
        Object[] numbers = new Object[parts.length];
        for (int i = 0; i < parts.length; i++) {
            types[i] = int.class;
            numbers[i] = Integer.valueOf(parts[i]);
        }
        return ((Number) BoundProofs.class.getMethod(name, types).invoke(x, numbers)).longValue();
    }

    private static void carryOut(String line) throws ReflectiveOperationException {
        Matcher call = CALL.matcher(line);
        Matcher text = TEXT.matcher(line);
        if (line.equals("BoundProofs x = new BoundProofs();")) {
            x = new BoundProofs();
        } else if (text.matches()) {
            for (char letter : text.group(1).toCharArray()) {
                x.type(letter);
            }
        } else if (call.matches()) {
            C.due(line, answer(call.group(1), call.group(2)), Long.parseLong(call.group(3)));
            calls++;
        } else {
            C.due("lines that are no call with its answer: " + line, 1, 0);
        }
    }

    private static void examples(String page) throws ReflectiveOperationException {
        Matcher block = Pattern.compile("(?s)```java\n(.*?)```").matcher(page);
        while (block.find()) {
            for (String line : block.group(1).split("\n")) {
                carryOut(line);
            }
        }
        C.due("there are calls among the examples", calls > 20 ? 1 : 0, 1);
    }

    private static void names(String page) throws IOException {
        for (Method method : BoundProofs.class.getDeclaredMethods()) {
            if (Modifier.isPublic(method.getModifiers())) {
                C.due("it names " + method.getName(), page.contains("`" + method.getName() + "`") ? 1 : 0, 1);
            }
        }
        try (Stream<Path> files = Files.list(Path.of("src/test/java"))) {
            for (Path file : files.toList()) {
                String name = file.getFileName().toString().replace(".java", "");
                if (name.endsWith("Test")) {
                    C.due("it names " + name, page.contains("`" + name + "`") ? 1 : 0, 1);
                }
            }
        }
        C.due("it says how to run the tests", page.contains("\n    .ci/run\n") ? 1 : 0, 1);
    }

    public static void main(String[] args) throws IOException, ReflectiveOperationException {
        C.about("README.md");
        String page = Files.readString(Path.of("README.md"));
        examples(page);
        names(page);
        C.end();
    }
}

import java.io.IOException;
import java.lang.reflect.Method;
import java.nio.file.Files;
import java.nio.file.Path;
import java.util.Map;
import java.util.TreeMap;
import java.util.regex.Matcher;
import java.util.regex.Pattern;
import java.util.stream.Stream;

/** README.md: its examples answer what they say, and it leaves out no call and no test. */
public final class ReadmeTest extends Checks {
    private static final Pattern EXAMPLE = Pattern.compile("(?s)```java\n(.*?)```");
    private static final Pattern CALL = Pattern.compile("x\\.(\\w+)\\(([-0-9, ]*)\\); *// (-?\\d+)?.*");
    private static final String MADE = "ChancePrograms x = new ChancePrograms();";

    private static final Map<String, Method> FACE = new TreeMap<>();
    private static int told = 0;

    public static void main(String[] args) throws IOException, ReflectiveOperationException {
        Path root = Path.of(args[0]).toAbsolutePath().getParent().resolve("../../..").normalize();
        String text = Files.readString(root.resolve("README.md"));
        for (Method method : ChancePrograms.class.getMethods()) {
            if (method.getDeclaringClass() == ChancePrograms.class) {
                FACE.put(method.getName(), method);
            }
        }
        examples(text);
        callsAreNamed(text);
        testsAreNamed(text, root.resolve("src/test/java"));
        finish();
    }

    private static void examples(String text) throws ReflectiveOperationException {
        Matcher example = EXAMPLE.matcher(text);
        while (example.find()) {
            carryOut(example.group(1));
        }
        holds("the examples tell answers", told >= 10);
    }

    private static void carryOut(String example) throws ReflectiveOperationException {
        String[] lines = example.split("\n");
        holds("an example begins with a new object: " + lines[0], lines[0].equals(MADE));
        ChancePrograms x = new ChancePrograms();
        for (int n = 1; n < lines.length; n++) {
            carryOutLine(x, lines[n]);
        }
    }

    /** The answer is the number with which the comment begins; without one, any that is no refusal. */
    private static void carryOutLine(ChancePrograms x, String line) throws ReflectiveOperationException {
        Matcher call = CALL.matcher(line);
        holds("a call of the face with a comment: " + line, call.matches() && FACE.containsKey(call.group(1)));
        if (!call.matches() || !FACE.containsKey(call.group(1))) {
            return;
        }
        long got = answer(x, FACE.get(call.group(1)), call.group(2));
        if (call.group(3) == null) {
            holds("it is not refused: " + line, got >= 0);
        } else {
            told++;
            due("README.md: " + line, got, Long.parseLong(call.group(3)));
        }
    }

    private static long answer(ChancePrograms x, Method method, String arguments)
            throws ReflectiveOperationException {
        Object[] numbers = Stream.of(arguments.split(","))
                .filter(argument -> !argument.isBlank())
                .map(argument -> Integer.valueOf(argument.trim()))
                .toArray();
        return method.invoke(x, numbers) instanceof Number number ? number.longValue() : 0;
    }

    private static void callsAreNamed(String text) {
        for (String name : FACE.keySet()) {
            holds("README.md tells of " + name, text.contains("`" + name + "("));
        }
    }

    private static void testsAreNamed(String text, Path tests) throws IOException {
        holds("README.md tells how to run the tests", text.contains("    .ci/run\n"));
        try (Stream<Path> files = Files.list(tests)) {
            files.map(file -> file.getFileName().toString())
                    .filter(name -> name.endsWith("Test.java"))
                    .map(name -> name.replace(".java", ""))
                    .forEach(name -> holds("README.md tells of " + name, text.contains("`" + name + "`")));
        }
    }
}

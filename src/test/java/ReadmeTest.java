import java.io.IOException;
import java.lang.reflect.Method;
import java.lang.reflect.Modifier;
import java.nio.file.DirectoryStream;
import java.nio.file.Files;
import java.nio.file.Path;
import java.util.Set;
import java.util.TreeSet;
import java.util.regex.Matcher;
import java.util.regex.Pattern;

/**
 * README.md's example is run as it stands there and must answer what it says, with every call of the
 * class in it; and README.md names every test. It is read from the current directory, the project's.
 */
public final class ReadmeTest {
    private static final Pattern EXAMPLE = Pattern.compile("```java\n(.*?)```", Pattern.DOTALL);
    private static final Pattern CALL = Pattern.compile("desk\\.(\\w+)\\((.*?)\\); +// (-?\\d+): .+");
    private static final Checks c = new Checks();

    public static void main(String[] args) throws IOException, ReflectiveOperationException {
        String readme = Files.readString(Path.of("README.md"));
        Matcher example = EXAMPLE.matcher(readme);
        c.holds("README.md has an example", example.find());
        runExample(example.group(1).split("\n"));
        namesEveryTest(readme);
        c.end("ReadmeTest");
    }

    private static void runExample(String[] lines) throws ReflectiveOperationException {
        c.holds("the example starts with a new object", lines[0].equals("LearnDesk desk = new LearnDesk();"));
        LearnDesk desk = new LearnDesk();
        Set<String> shown = new TreeSet<>();
        for (int i = 1; i < lines.length; i++) {
            Matcher call = CALL.matcher(lines[i]);
            if (call.matches()) {
                Method method = methodNamed(call.group(1));
                Object answer = method.invoke(desk, arguments(call.group(2)));
                c.due("README.md: " + lines[i], (Integer) answer, Integer.parseInt(call.group(3)));
                shown.add(method.getName());
            } else {
                c.holds("README.md: a call with its answer, or an empty line: " + lines[i], lines[i].isEmpty());
            }
        }
        for (Method method : LearnDesk.class.getDeclaredMethods()) {
            boolean open = Modifier.isPublic(method.getModifiers());
            c.holds("README.md's example shows " + method.getName(), !open || shown.contains(method.getName()));
        }
    }

    private static Method methodNamed(String name) throws NoSuchMethodException {
        for (Method method : LearnDesk.class.getMethods()) {
            if (method.getName().equals(name)) {
                return method;
            }
        }
        throw new NoSuchMethodException("README.md calls " + name);
    }

    private static Object[] arguments(String list) {
        if (list.isEmpty()) {
            return new Object[0];
        }
        String[] texts = list.split(", ");
        Object[] values = new Object[texts.length];
        for (int i = 0; i < texts.length; i++) {
            values[i] = argument(texts[i].replace("_", ""));
        }
        return values;
    }

    private static Object argument(String text) {
        if (text.equals("true") || text.equals("false")) {
            return text.equals("true");
        }
        return text.startsWith("0b") ? Integer.parseInt(text.substring(2), 2) : Integer.parseInt(text);
    }

    private static void namesEveryTest(String readme) throws IOException {
        try (DirectoryStream<Path> tests = Files.newDirectoryStream(Path.of("src/test/java"), "*Test.java")) {
            for (Path test : tests) {
                c.holds("README.md names " + test, readme.contains("`" + test + "`"));
            }
        }
    }
}

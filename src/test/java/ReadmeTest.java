import java.io.File;
import java.io.IOException;
import java.lang.reflect.Method;
import java.lang.reflect.Modifier;
import java.nio.file.Files;
import java.nio.file.Path;
import java.util.Set;
import java.util.TreeSet;
import java.util.regex.Matcher;
import java.util.regex.Pattern;

/** README.md: its example answers what its comments say, and it names all methods and tests. */
public final class ReadmeTest {
    private static final Pattern CALL =
        Pattern.compile("(?m)^mesh\\.(\\w+)\\(([^)]*)\\);\\s*// (-?\\d+|true|false|BAD|FULL)\\b");
    private static final Check check = new Check();

    public static void main(String[] args) throws IOException, ReflectiveOperationException {
        String text = Files.readString(Path.of("README.md"));
        example(text);
        methodsAreNamed(text);
        testsAreNamed(text);
        check.end();
    }

    private static void example(String text) throws ReflectiveOperationException {
        MovingMesh mesh = new MovingMesh();
        Matcher m = CALL.matcher(text);
        int calls = 0;
        while (m.find()) {
            Object answer = call(mesh, m.group(1), m.group(2));
            check.due("README: " + m.group(), number(answer.toString()), number(m.group(3)));
            calls++;
        }
        check.due("README: calls with their answers", calls, text.split("(?m)^mesh\\.").length - 1);
        check.due("README: has an example", calls > 0, true);
    }

    private static Object call(MovingMesh mesh, String name, String list) throws ReflectiveOperationException {
        String[] words = list.isEmpty() ? new String[0] : list.split(", ");
        Class<?>[] types = new Class<?>[words.length];
        Object[] values = new Object[words.length];
        for (int i = 0; i < words.length; i++) {
            boolean truth = words[i].equals("true") || words[i].equals("false");
            types[i] = truth ? boolean.class : int.class;
            if (truth) {
                values[i] = words[i].equals("true");
            } else {
                values[i] = Integer.valueOf(words[i]);
            }
        }
        return MovingMesh.class.getMethod(name, types).invoke(mesh, values);
    }

    private static int number(String answer) {
        return switch (answer) {
            case "true" -> 1;
            case "false" -> 0;
            case "BAD" -> MovingMesh.BAD;
            case "FULL" -> MovingMesh.FULL;
            default -> Integer.parseInt(answer);
        };
    }

    private static void methodsAreNamed(String text) {
        for (Method m : MovingMesh.class.getDeclaredMethods()) {
            if (Modifier.isPublic(m.getModifiers())) {
                check.due("README names " + m.getName(), text.contains("| `" + m.getName() + "("), true);
            }
        }
    }

    private static void testsAreNamed(String text) {
        Set<String> tests = new TreeSet<>();
        for (String file : new File("src/test/java").list()) {
            if (file.endsWith("Test.java")) {
                tests.add(file.replace(".java", ""));
            }
        }
        Set<String> named = new TreeSet<>();
        Matcher m = Pattern.compile("`(\\w+Test)`").matcher(text);
        while (m.find()) {
            named.add(m.group(1));
        }
        check.due("README names the tests " + tests + ", named are " + named, named.equals(tests), true);
    }
}

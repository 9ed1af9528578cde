import java.io.IOException;
import java.nio.file.Files;
import java.nio.file.Path;
import java.util.ArrayList;
import java.util.LinkedHashMap;
import java.util.List;
import java.util.Map;
import java.util.Set;
import java.util.regex.Matcher;
import java.util.regex.Pattern;

/**
 * The rules of ../shared/LANGUAGE.md, as far as the text of the class shows them. It is
 * stricter than the rules where that is simpler: all arrays are made in the fields'
 * initialisers, and all loops count up to a bound.
 */
public final class LanguageTest {
    private static final Path SOURCE = Path.of("src/main/java/MovingMesh.java");
    private static final Set<String> NO_CALLS = Set.of("if", "for", "switch", "return");
    private static final Pattern CALL = Pattern.compile("(\\w+)\\s*\\(");
    private static final Check check = new Check();

    private static String text;
    private static final Map<String, String> bodies = new LinkedHashMap<>();

    public static void main(String[] args) throws IOException {
        text = Files.readString(SOURCE).replaceAll("(?s)/\\*.*?\\*/", "").replaceAll("//.*", "");
        readMethods();
        check.due("methods are found", bodies.size() > 16, true);
        noForbiddenWords();
        fields();
        loops();
        for (Map.Entry<String, String> method : bodies.entrySet()) {
            calls(method.getKey(), method.getValue());
            check.due("rule 10: lines of " + method.getKey(), method.getValue().split("\n").length > 60, false);
            check.due("rules 8, 10: calls from " + method.getKey(), depth(method.getKey(), 0) > 6, false);
        }
        check.end();
    }

    private static void readMethods() {
        Matcher m = Pattern.compile("(?ms)^    (?:public|private)[^;={]*?(\\w+)\\(([^)]*)\\) \\{\n(.*?)^    \\}$").matcher(text);
        while (m.find()) {
            check.due("a second method " + m.group(1), bodies.containsKey(m.group(1)), false);
            check.due("rule 10: parameters of " + m.group(1), m.group(2).split(",").length > 7, false);
            bodies.put(m.group(1), m.group(3));
        }
    }

    private static void noForbiddenWords() {
        String words = "import|package|interface|enum|record|extends|implements|protected|null|this|super|float|double"
            + "|String|Object|Math|Integer|Long|System|Arrays|throw|throws|try|catch|finally|synchronized|assert"
            + "|instanceof|native|volatile|transient|while|do";
        Matcher m = Pattern.compile("\\b(" + words + ")\\b|->|::|@|\"|\\[\\s*\\]\\s*\\[").matcher(text);
        while (m.find()) {
            check.due("rules 1 to 8: " + m.group(), true, false);
        }
        check.due("rule 1: classes", text.split("\\bclass\\b").length - 1, 1);
        check.due("rule 4: makes nothing in methods", String.join("", bodies.values()).contains("new "), false);
    }

    private static void fields() {
        int count = 0;
        Matcher m = Pattern.compile("(?m)^    (?:public|private) ([^(;]*);").matcher(text);
        while (m.find()) {
            String field = m.group(1);
            if (field.startsWith("static")) {
                check.due("rule 5: " + field, field.matches("static final (int|long) \\w+ = -?\\d+"), true);
                continue;
            }
            count++;
            if (field.contains("[")) {
                String right = "final (int|long|short|byte|char|boolean)\\[\\] \\w+ = new \\1\\[(\\d+|[A-Z_]+)\\]";
                check.due("rule 4: " + field, field.matches(right), true);
                noArrayIsAssigned(field.replaceAll(".*\\] (\\w+) = .*", "$1"));
            } else {
                check.due("rule 2: " + field, field.matches("(int|long|short|byte|char|boolean) \\w+"), true);
            }
        }
        check.due("fields are found", count > 0, true);
        check.due("rule 10: fields", count > 40, false);
    }

    /** Each use of an array in a method is one of an element. */
    private static void noArrayIsAssigned(String name) {
        for (Map.Entry<String, String> method : bodies.entrySet()) {
            boolean bare = Pattern.compile("\\b" + name + "\\b(?!\\[)").matcher(method.getValue()).find();
            check.due("rule 4: " + name + " as a whole in " + method.getKey(), bare, false);
        }
    }

    private static void loops() {
        Pattern counting = Pattern.compile("for \\(int (\\w+) = \\w+; \\1 < \\w+; \\1\\+\\+\\) \\{");
        int all = text.split("\\bfor\\b", -1).length - 1;
        int good = 0;
        Matcher m = counting.matcher(text);
        while (m.find()) {
            good++;
        }
        check.due("rule 8: loops that count up to a bound", good, all);
    }

    private static void calls(String name, String body) {
        for (String inner : callsIn(body)) {
            check.due("rule 3: " + name + " calls " + inner, bodies.containsKey(inner), true);
        }
        Matcher m = CALL.matcher(body);
        while (m.find()) {
            if (bodies.containsKey(m.group(1))) {
                String arguments = body.substring(m.end(), closing(body, m.end()));
                check.due("rule 10: a call in the arguments of " + m.group(), callsIn(arguments).size(), 0);
            }
        }
    }

    private static List<String> callsIn(String part) {
        List<String> names = new ArrayList<>();
        Matcher m = CALL.matcher(part);
        while (m.find()) {
            if (!NO_CALLS.contains(m.group(1))) {
                names.add(m.group(1));
            }
        }
        return names;
    }

    private static int closing(String body, int from) {
        int open = 1;
        int at = from;
        while (open > 0) {
            char c = body.charAt(at);
            open += c == '(' ? 1 : c == ')' ? -1 : 0;
            at++;
        }
        return at - 1;
    }

    /** How deep calls go from here; more than any rule allows where they come round again. */
    private static int depth(String name, int above) {
        int deepest = 0;
        if (above > 20) {
            return 0;
        }
        for (String inner : callsIn(bodies.getOrDefault(name, ""))) {
            deepest = Math.max(deepest, depth(inner, above + 1));
        }
        return deepest + 1;
    }
}

import java.nio.file.Files;
import java.nio.file.Path;
import java.util.ArrayList;
import java.util.LinkedHashMap;
import java.util.List;
import java.util.Map;
import java.util.Set;
import java.util.TreeSet;
import java.util.regex.Matcher;
import java.util.regex.Pattern;

/** What a plain look at the source can tell of the rules of LANGUAGE.md. Run from the project's root. */
public final class LanguageTest {
    private static final String SOURCE = "src/main/java/DerivativeParser.java";
    private static final String[] FORBIDDEN = {
        "package", "import", "throw", "throws", "try", "catch", "finally", "synchronized", "assert",
        "instanceof", "float", "double", "null", "this", "super", "interface", "enum", "record", "var",
        "String", "Math", "Integer", "Long", "System", "Arrays", "Object", "protected", "native"};
    private static final Pattern METHOD = Pattern.compile(
            "^    (public|private) (static )?(int |long |boolean |void )?(\\w+)\\(([^)]*)\\) \\{$",
            Pattern.MULTILINE);
    private static final Pattern CALL = Pattern.compile("\\b([a-zA-Z]\\w*)\\(");
    private static final Set<String> NOT_CALLS = Set.of("if", "for", "while", "switch");
    private static final int MOST_PARAMETERS = 7;
    private static final int MOST_LINES = 60;
    private static final int MOST_DEPTH = 6;
    private static final int MOST_FIELDS = 40;

    private static final Check CHECK = new Check("LanguageTest");

    private final String code;
    private final Map<String, String> bodies = new LinkedHashMap<>();

    public static void main(String[] args) throws Exception {
        String text = Files.readString(Path.of(SOURCE));
        LanguageTest test = new LanguageTest(withoutComments(text));
        test.wordsAreAllowed();
        test.arraysAreMadeInFields();
        test.methodsAreSmall();
        test.callsEnd();
        CHECK.end();
    }

    private LanguageTest(String code) {
        this.code = code;
        Matcher method = METHOD.matcher(code);
        while (method.find()) {
            int end = code.indexOf("\n    }\n", method.end());
            String name = method.group(4);
            CHECK.holds("only one method is named " + name, !bodies.containsKey(name));
            bodies.put(name, code.substring(method.end(), end));
            int parameters = method.group(5).isEmpty() ? 0 : method.group(5).split(",").length;
            CHECK.holds(name + " takes few parameters", parameters <= MOST_PARAMETERS);
        }
        CHECK.holds("methods were found", bodies.size() >= 17);
    }

    private static String withoutComments(String text) {
        return text.replaceAll("(?s)/\\*.*?\\*/", "").replaceAll("//[^\n]*", "");
    }

    private void wordsAreAllowed() {
        for (String word : FORBIDDEN) {
            Matcher matcher = Pattern.compile("\\b" + word + "\\b").matcher(code);
            CHECK.holds("no " + word, !matcher.find());
        }
        CHECK.holds("no text", code.indexOf('"') < 0);
        CHECK.holds("no lambda or method reference", !code.contains("->") && !code.contains("::"));
        CHECK.holds("nothing is reached through a dot", code.indexOf('.') < 0);
        CHECK.holds("one class", code.split("\\bclass\\b").length == 2);
    }

    private void arraysAreMadeInFields() {
        Matcher made = Pattern.compile("[^\n]*\\bnew\\b[^\n]*").matcher(code);
        while (made.find()) {
            CHECK.holds("an array of a field: " + made.group(), made.group().matches(
                    "    private final (int|long|short|byte|char|boolean)\\[\\] \\w+ = new \\1\\[[A-Z_0-9]+\\];"));
        }
        CHECK.holds("arrays have one dimension", !code.contains("[][]"));
        Matcher fields = Pattern.compile("(?m)^    private (?!static)[^(]*;$").matcher(code);
        int count = 0;
        while (fields.find()) {
            count++;
        }
        CHECK.holds("there are few fields: " + count, count >= 1 && count <= MOST_FIELDS);
        Matcher statics = Pattern.compile("(?m)^    \\w+ static (?!final (int|long) )[^(]*;$").matcher(code);
        CHECK.holds("static fields are constants", !statics.find());
    }

    private void methodsAreSmall() {
        for (Map.Entry<String, String> method : bodies.entrySet()) {
            int lines = method.getValue().split("\n").length;
            CHECK.holds(method.getKey() + " is short, has " + lines, lines <= MOST_LINES);
            CHECK.holds("no call inside a call's arguments in " + method.getKey(),
                    !hasCallInCall(method.getValue()));
        }
    }

    private static boolean hasCallInCall(String body) {
        Matcher call = CALL.matcher(body);
        while (call.find()) {
            if (!NOT_CALLS.contains(call.group(1))
                    && CALL.matcher(argumentsAt(body, call.end())).find()) {
                return true;
            }
        }
        return false;
    }

    private static String argumentsAt(String body, int start) {
        int depth = 1;
        int end = start;
        while (depth > 0) {
            char c = body.charAt(end);
            depth += c == '(' ? 1 : c == ')' ? -1 : 0;
            end++;
        }
        return body.substring(start, end - 1);
    }

    private void callsEnd() {
        for (String name : bodies.keySet()) {
            List<String> path = new ArrayList<>();
            follow(name, path);
        }
        for (String body : bodies.values()) {
            CHECK.holds("every loop counts", !Pattern.compile("\\b(while|do)\\b").matcher(body).find());
        }
    }

    private void follow(String name, List<String> path) {
        CHECK.holds("no recursion: " + path + " to " + name, !path.contains(name));
        if (path.contains(name)) {
            return;
        }
        path.add(name);
        CHECK.holds("calls are not deep: " + path, path.size() <= MOST_DEPTH);
        for (String called : callsIn(bodies.get(name))) {
            CHECK.holds(called + " is a method of the class", bodies.containsKey(called));
            if (bodies.containsKey(called)) {
                follow(called, path);
            }
        }
        path.remove(path.size() - 1);
    }

    private static Set<String> callsIn(String body) {
        Set<String> names = new TreeSet<>();
        Matcher call = CALL.matcher(body);
        while (call.find()) {
            if (!NOT_CALLS.contains(call.group(1))) {
                names.add(call.group(1));
            }
        }
        return names;
    }
}

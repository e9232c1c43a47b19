import java.io.File;
import java.lang.reflect.Method;
import java.lang.reflect.Modifier;
import java.nio.file.Files;
import java.nio.file.Path;
import java.util.Arrays;
import java.util.List;
import java.util.TreeSet;
import java.util.regex.Matcher;
import java.util.regex.Pattern;

/**
 * Each call that README.md shows in its example answers as README.md says, each method is shown
 * there, and README.md tells of every test. Run from the project's root.
 */
public final class ReadmeTest {
    private static final Path README = Path.of("README.md");
    private static final Pattern MADE =
            Pattern.compile("DerivativeParser x = new DerivativeParser\\((-?\\d+), (-?\\d+), (-?\\d+)\\);");
    /** The answer stands behind the call: a constant or a number, and perhaps words that explain it. */
    private static final Pattern CALL = Pattern.compile("x\\.(\\w+)\\((.*)\\); +// (\\w+|-\\d+)(:.*)?");
    private static final Pattern TEST = Pattern.compile("`(\\w+Test)`");

    private static final Check CHECK = new Check("ReadmeTest");

    private DerivativeParser x;
    private final TreeSet<String> shown = new TreeSet<>();

    public static void main(String[] args) throws Exception {
        List<String> readme = Files.readAllLines(README);
        ReadmeTest test = new ReadmeTest();
        for (String line : exampleOf(readme)) {
            test.follow(line.trim());
        }
        test.everyMethodIsShown();
        everyTestIsNamed(String.join("\n", readme));
        CHECK.end();
    }

    private static List<String> exampleOf(List<String> readme) {
        List<String> rest = readme.subList(readme.indexOf("```java") + 1, readme.size());
        return rest.subList(0, rest.indexOf("```"));
    }

    private void follow(String line) throws Exception {
        if (line.isEmpty() || line.startsWith("//")) {
            return;
        }
        Matcher made = MADE.matcher(line);
        Matcher call = CALL.matcher(line);
        if (made.matches()) {
            x = new DerivativeParser(Integer.parseInt(made.group(1)), Integer.parseInt(made.group(2)),
                    Integer.parseInt(made.group(3)));
        } else if (call.matches()) {
            shown.add(call.group(1));
            CHECK.due(line, answer(call.group(1), call.group(2)), number(call.group(3)));
        } else {
            CHECK.holds("the example's line is a call with its answer: " + line, false);
        }
    }

    private int answer(String name, String arguments) throws Exception {
        String[] words = arguments.isEmpty() ? new String[0] : arguments.split(", ");
        Object[] numbers = new Object[words.length];
        Class<?>[] types = new Class<?>[words.length];
        for (int i = 0; i < words.length; i++) {
            numbers[i] = number(words[i].replace("DerivativeParser.", ""));
            types[i] = int.class;
        }
        Method method = DerivativeParser.class.getMethod(name, types);
        return (int) method.invoke(x, numbers);
    }

    private static int number(String word) throws Exception {
        if (word.matches("-?\\d+")) {
            return Integer.parseInt(word);
        }
        return DerivativeParser.class.getField(word).getInt(null);
    }

    private void everyMethodIsShown() {
        for (Method method : DerivativeParser.class.getDeclaredMethods()) {
            if (Modifier.isPublic(method.getModifiers())) {
                CHECK.holds("the example shows " + method.getName(), shown.contains(method.getName()));
            }
        }
    }

    private static void everyTestIsNamed(String readme) {
        TreeSet<String> there = new TreeSet<>();
        for (File file : new File("src/test/java").listFiles()) {
            if (file.getName().endsWith("Test.java")) {
                there.add(file.getName().replace(".java", ""));
            }
        }
        TreeSet<String> named = new TreeSet<>();
        Matcher matcher = TEST.matcher(readme);
        while (matcher.find()) {
            named.add(matcher.group(1));
        }
        CHECK.holds("the tests are " + there + ", README.md names " + named, named.equals(there));
        for (String told : Arrays.asList(".ci/run", "../shared/tests", "../shared/DOC.md")) {
            CHECK.holds("README.md tells of " + told, readme.contains(told));
        }
    }
}

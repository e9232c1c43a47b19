import java.io.IOException;
import java.lang.reflect.Constructor;
import java.lang.reflect.Field;
import java.lang.reflect.Method;
import java.lang.reflect.Modifier;
import java.nio.file.Files;
import java.nio.file.Path;
import java.util.List;
import java.util.Map;
import java.util.TreeMap;
import java.util.TreeSet;
import java.util.regex.Matcher;
import java.util.regex.Pattern;
import java.util.stream.Collectors;

/**
 * The public face is the one that the document's sections "The public face" and "What it is" show,
 * and nothing else can be seen.
 */
public final class FaceTest {
    private static final Path DOCUMENT = Path.of("../shared/DOC.md");
    private static final Path SOURCE = Path.of("src/main/java/DerivativeParser.java");
    private static final Pattern CONSTANT = Pattern.compile("public static final int (\\w+) = (-?\\d+);");
    private static final Pattern METHOD = Pattern.compile("public int (\\w+)\\((.*)\\);");
    private static final Pattern TABLE_CONSTANT = Pattern.compile("`(\\w+)` = (-?\\d+)");

    private static final Check CHECK = new Check("FaceTest");

    private final List<String> document = Files.readAllLines(DOCUMENT);
    private final List<String> face = faceOf(document);

    private FaceTest() throws IOException {
    }

    public static void main(String[] args) throws Exception {
        FaceTest test = new FaceTest();
        test.classIsPublicFinalAndAlone();
        test.constantsAreTheDocuments();
        test.constructorIsTheDocuments();
        test.methodsAreTheDocuments();
        test.declarationsAreTheDocuments();
        CHECK.end();
    }

    /** The lines of the document's block of code. */
    private static List<String> faceOf(List<String> document) {
        int start = document.indexOf("```java");
        List<String> rest = document.subList(start + 1, document.size());
        return rest.subList(0, rest.indexOf("```"));
    }

    private void classIsPublicFinalAndAlone() {
        CHECK.holds("the document's class is public and final",
                face.contains("public final class DerivativeParser {"));
        int modifiers = DerivativeParser.class.getModifiers();
        CHECK.holds("the class is public and final",
                Modifier.isPublic(modifiers) && Modifier.isFinal(modifiers));
        CHECK.due("nested classes", DerivativeParser.class.getDeclaredClasses().length, 0);
        CHECK.due("interfaces", DerivativeParser.class.getInterfaces().length, 0);
        CHECK.holds("no other class stands above it", DerivativeParser.class.getSuperclass() == Object.class);
    }

    private void constantsAreTheDocuments() throws Exception {
        Map<String, Integer> wanted = namesAndNumbers(CONSTANT, face);
        Map<String, Integer> found = new TreeMap<>();
        for (Field field : DerivativeParser.class.getDeclaredFields()) {
            int modifiers = field.getModifiers();
            if (Modifier.isPublic(modifiers)) {
                CHECK.holds(field + " is a constant int", Modifier.isStatic(modifiers)
                        && Modifier.isFinal(modifiers) && field.getType() == int.class);
                found.put(field.getName(), field.getInt(null));
            } else {
                CHECK.holds(field + " is private", Modifier.isPrivate(modifiers));
            }
        }
        CHECK.holds("the constants are " + wanted + ", found " + found, wanted.equals(found));
        List<String> table = document.stream().filter(line -> line.startsWith("|")).collect(Collectors.toList());
        Map<String, Integer> listed = namesAndNumbers(TABLE_CONSTANT, table);
        CHECK.holds("the constants of the table are " + listed + ", found " + found, listed.equals(found));
    }

    private static Map<String, Integer> namesAndNumbers(Pattern pattern, List<String> lines) {
        Map<String, Integer> result = new TreeMap<>();
        for (String line : lines) {
            Matcher matcher = pattern.matcher(line);
            while (matcher.find()) {
                result.put(matcher.group(1), Integer.parseInt(matcher.group(2)));
            }
        }
        return result;
    }

    private void constructorIsTheDocuments() {
        Constructor<?>[] all = DerivativeParser.class.getDeclaredConstructors();
        CHECK.due("constructors", all.length, 1);
        CHECK.holds("the constructor is public", Modifier.isPublic(all[0].getModifiers()));
        CHECK.holds("it is the document's", face.contains(
                "    public DerivativeParser(int cells, int length, int alphabet);"));
        CHECK.due("numbers the constructor takes", takenInts(all[0].getParameterTypes()), 3);
    }

    private void methodsAreTheDocuments() {
        TreeSet<String> wanted = new TreeSet<>();
        for (String line : face) {
            Matcher matcher = METHOD.matcher(line);
            if (matcher.find()) {
                String parameters = matcher.group(2);
                wanted.add(matcher.group(1) + "/" + (parameters.isEmpty() ? 0 : parameters.split(",").length));
            }
        }
        TreeSet<String> found = new TreeSet<>();
        for (Method method : DerivativeParser.class.getDeclaredMethods()) {
            int modifiers = method.getModifiers();
            if (!Modifier.isPublic(modifiers)) {
                CHECK.holds(method + " is private", Modifier.isPrivate(modifiers));
                continue;
            }
            found.add(method.getName() + "/" + takenInts(method.getParameterTypes()));
            CHECK.holds(method + " answers an int", method.getReturnType() == int.class);
            CHECK.holds(method + " is of the object", !Modifier.isStatic(modifiers));
        }
        CHECK.holds("the methods are " + wanted + ", found " + found, wanted.equals(found));
    }

    private static int takenInts(Class<?>[] types) {
        for (Class<?> type : types) {
            CHECK.holds("a call takes ints alone", type == int.class);
        }
        return types.length;
    }

    /** Word for word, so that the names of what a call takes are the document's too. */
    private void declarationsAreTheDocuments() throws IOException {
        List<String> source = Files.readAllLines(SOURCE);
        int count = 0;
        for (String line : face) {
            if (line.startsWith("    public ")) {
                String declared = line.endsWith(");") ? line.replace(");", ") {") : line;
                CHECK.holds("the class has:" + declared, source.contains(declared));
                count++;
            }
        }
        long all = source.stream().filter(line -> line.startsWith("    public ")).count();
        CHECK.due("public members of the source", all, count);
    }
}

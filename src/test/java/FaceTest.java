import java.lang.reflect.Constructor;
import java.lang.reflect.Field;
import java.lang.reflect.Method;
import java.lang.reflect.Modifier;
import java.util.Arrays;
import java.util.Map;
import java.util.TreeMap;
import java.util.TreeSet;

/** The public face is the document's, with its constants' values, and nothing else can be seen. */
public final class FaceTest {
    private static final Check CHECK = new Check("FaceTest");

    public static void main(String[] args) throws Exception {
        classIsPublicFinalAndAlone();
        constantsAreTheDocuments();
        constructorIsTheDocuments();
        methodsAreTheDocuments();
        CHECK.end();
    }

    private static void classIsPublicFinalAndAlone() {
        int modifiers = DerivativeParser.class.getModifiers();
        CHECK.holds("the class is public and final",
                Modifier.isPublic(modifiers) && Modifier.isFinal(modifiers));
        CHECK.due("nested classes", DerivativeParser.class.getDeclaredClasses().length, 0);
        CHECK.due("interfaces", DerivativeParser.class.getInterfaces().length, 0);
    }

    private static void constantsAreTheDocuments() throws Exception {
        Map<String, Integer> wanted = new TreeMap<>();
        wanted.put("EMPTY", 0);
        wanted.put("EPSILON", 1);
        wanted.put("TOKEN", 2);
        wanted.put("ALT", 3);
        wanted.put("SEQ", 4);
        wanted.put("DEAD", 1);
        wanted.put("PARTIAL", 2);
        wanted.put("ACCEPTED", 3);
        wanted.put("OK", 0);
        wanted.put("NONE", -1);
        wanted.put("CLOSED", -2);
        wanted.put("OPENED", -3);
        wanted.put("BAD_CELL", -4);
        wanted.put("BAD_KIND", -5);
        wanted.put("BAD_LEFT", -6);
        wanted.put("BAD_RIGHT", -7);
        wanted.put("BAD_TOKEN", -8);
        wanted.put("FULL", -9);
        wanted.put("BAD_PLACE", -10);
        Map<String, Integer> found = new TreeMap<>();
        for (Field field : DerivativeParser.class.getDeclaredFields()) {
            int modifiers = field.getModifiers();
            if (Modifier.isPublic(modifiers)) {
                CHECK.holds(field + " is a constant int", Modifier.isStatic(modifiers)
                        && Modifier.isFinal(modifiers) && field.getType() == int.class);
                found.put(field.getName(), field.getInt(null));
            } else {
                CHECK.holds(field + " is private", Modifier.isPrivate(modifiers));
            }
        }
        CHECK.holds("the constants are " + wanted + ", found " + found, wanted.equals(found));
    }

    private static void constructorIsTheDocuments() {
        Constructor<?>[] all = DerivativeParser.class.getDeclaredConstructors();
        CHECK.due("constructors", all.length, 1);
        CHECK.holds("the constructor is public", Modifier.isPublic(all[0].getModifiers()));
        CHECK.holds("the constructor takes three ints", Arrays.equals(all[0].getParameterTypes(),
                new Class<?>[] {int.class, int.class, int.class}));
    }

    private static void methodsAreTheDocuments() {
        TreeSet<String> wanted = new TreeSet<>(Arrays.asList(
                "define/4", "kind/1", "left/1", "right/1", "least/1", "open/1", "close/0", "root/0",
                "feed/1", "keep/1", "size/0", "tokenAt/1", "verdict/0", "shortest/0", "ahead/1",
                "longest/0"));
        TreeSet<String> found = new TreeSet<>();
        for (Method method : DerivativeParser.class.getDeclaredMethods()) {
            int modifiers = method.getModifiers();
            if (!Modifier.isPublic(modifiers)) {
                CHECK.holds(method + " is private", Modifier.isPrivate(modifiers));
                continue;
            }
            found.add(method.getName() + "/" + method.getParameterCount());
            CHECK.holds(method + " answers an int", method.getReturnType() == int.class);
            CHECK.holds(method + " is of the object", !Modifier.isStatic(modifiers));
            for (Class<?> type : method.getParameterTypes()) {
                CHECK.holds(method + " takes ints", type == int.class);
            }
        }
        CHECK.holds("the methods are " + wanted + ", found " + found, wanted.equals(found));
    }
}

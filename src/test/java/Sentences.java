import java.util.ArrayList;
import java.util.List;

/**
 * Sentences of the document, each with a test of its own. What is not as due is printed behind the
 * section and the sentence that ask for it.
 */
final class Sentences {
    interface Test {
        void run(Check check);
    }

    private final List<String> names = new ArrayList<>();
    private final List<Test> tests = new ArrayList<>();
    private String section = "";

    void section(String title) {
        section = title;
    }

    /** The sentence stands in the document word for word, but for the marks of code. */
    void test(String sentence, Test test) {
        names.add(name(section, sentence));
        tests.add(test);
    }

    static String name(String section, String sentence) {
        return section + " | " + sentence;
    }

    List<String> names() {
        return names;
    }

    void run(String test) {
        long looked = 0;
        int failed = 0;
        for (int i = 0; i < names.size(); i++) {
            Check check = new Check(names.get(i));
            if (!passes(tests.get(i), check)) {
                System.out.println("FAILED: " + names.get(i));
                failed++;
            }
            looked += check.looked();
        }
        System.out.println(test + ": " + names.size() + " sentences, " + looked + " looked at, "
                + failed + " sentences failed");
        if (failed != 0 || names.isEmpty()) {
            System.exit(1);
        }
    }

    /** No call may throw, so whatever is thrown here is a fault of the class too. */
    private static boolean passes(Test test, Check check) {
        try {
            test.run(check);
        } catch (RuntimeException | StackOverflowError thrown) {
            check.holds("no call throws, but here was " + thrown, false);
        }
        return check.isGood();
    }
}

import java.util.LinkedHashMap;
import java.util.Map;
import java.util.function.Predicate;

/** The sentences of the document's "What it is". The constants that it lists are in FaceTest. */
public final class OverviewTest extends Samples {
    private static final int MOST_WORD = 7;

    /** A grammar with cell 0 as its root, and another way to tell which words it has. */
    private static final class Language {
        final int alphabet;
        final Predicate<String> has;
        final int[][] cells;

        Language(int alphabet, Predicate<String> has, int[][] cells) {
            this.alphabet = alphabet;
            this.has = has;
            this.cells = cells;
        }

        DerivativeParser made(int length) {
            return grammar(cells, length, alphabet);
        }
    }

    public static void main(String[] args) {
        Sentences all = new Sentences();
        list(all);
        all.run("OverviewTest");
    }

    static void list(Sentences all) {
        all.section("What it is");
        all.test("DerivativeParser is a recogniser for context-free languages.", OverviewTest::recognises);
        all.test("A grammar is a graph of numbered cells, which may be cyclic in every way: left-recursive, "
                + "ambiguous, nullable and useless grammars are all allowed.", OverviewTest::anyGrammarIsAllowed);
        all.test("After a root cell is opened, tokens are fed one by one, and the object tells which suffixes can "
                + "still complete the input.", OverviewTest::tellsWhatCompletes);
        all.test("The input can be cut back to any earlier length.", OverviewTest::cutToAnyLength);
    }

    private static DerivativeParser grammar(int[][] cells, int length, int alphabet) {
        DerivativeParser x = new DerivativeParser(cells.length, length, alphabet);
        for (int cell = 0; cell < cells.length; cell++) {
            x.define(cell, cells[cell][0], cells[cell][1], cells[cell][2]);
        }
        return x;
    }

    private static Map<String, Language> languages() {
        Map<String, Language> all = new LinkedHashMap<>();
        all.put("brackets", new Language(2, OverviewTest::areBrackets, new int[][] {
            {ALT, 1, 2}, {EPSILON, 0, 0}, {SEQ, 5, 3}, {SEQ, 0, 4}, {SEQ, 6, 0}, {TOKEN, 0, 0}, {TOKEN, 1, 0}}));
        all.put("palindromes", new Language(2, OverviewTest::isPalindrome, new int[][] {
            {ALT, 1, 2}, {ALT, 3, 4}, {ALT, 5, 6}, {EPSILON, 0, 0}, {ALT, 9, 10}, {SEQ, 9, 7}, {SEQ, 10, 8},
            {SEQ, 0, 9}, {SEQ, 0, 10}, {TOKEN, 0, 0}, {TOKEN, 1, 0}}));
        all.put("as many 0 as 1", new Language(2, OverviewTest::isEven, new int[][] {
            {ALT, 1, 2}, {EPSILON, 0, 0}, {ALT, 3, 4}, {SEQ, 7, 5}, {SEQ, 8, 6}, {SEQ, 0, 9}, {SEQ, 0, 10},
            {TOKEN, 0, 0}, {TOKEN, 1, 0}, {SEQ, 8, 0}, {SEQ, 7, 0}}));
        all.put("two kinds of pairs", new Language(3, OverviewTest::isPaired, new int[][] {
            {ALT, 1, 4}, {ALT, 10, 2}, {SEQ, 11, 3}, {SEQ, 1, 12}, {SEQ, 5, 7}, {ALT, 10, 6}, {SEQ, 5, 11},
            {ALT, 10, 8}, {SEQ, 12, 9}, {SEQ, 7, 13}, {EPSILON, 0, 0}, {TOKEN, 0, 0}, {TOKEN, 1, 0},
            {TOKEN, 2, 0}}));
        return all;
    }

    private static boolean areBrackets(String word) {
        int depth = 0;
        for (char token : word.toCharArray()) {
            depth += token == '0' ? 1 : -1;
            if (depth < 0) {
                return false;
            }
        }
        return depth == 0;
    }

    private static boolean isPalindrome(String word) {
        return new StringBuilder(word).reverse().toString().equals(word);
    }

    private static boolean isEven(String word) {
        return word.replace("0", "").length() * 2 == word.length();
    }

    /** 0^n 1^n, or any number of 0 and then 1^n 2^n. */
    private static boolean isPaired(String word) {
        int zeros = word.length() - word.replace("0", "").length();
        int ones = word.length() - word.replace("1", "").length();
        int twos = word.length() - zeros - ones;
        boolean inOrder = word.equals("0".repeat(zeros) + "1".repeat(ones) + "2".repeat(twos));
        return inOrder && (twos == 0 && zeros == ones || ones == twos);
    }

    private static void recognises(Check check) {
        languages().forEach((name, language) -> {
            DerivativeParser x = language.made(MOST_WORD);
            boolean accepted = x.open(0) == ACCEPTED;
            recognisedDue(check, name, language, x, "", accepted);
        });
    }

    /** Walks through all words that begin with this one, which is the object's input. */
    private static void recognisedDue(Check check, String name, Language language, DerivativeParser x, String word,
            boolean accepted) {
        check.holds(name + " of '" + word + "'", accepted == language.has.test(word));
        for (int token = 0; token < language.alphabet && word.length() < MOST_WORD; token++) {
            boolean next = x.feed(token) == ACCEPTED;
            recognisedDue(check, name, language, x, word + token, next);
            x.keep(word.length());
        }
    }

    /** Each has any number of 0, also none, and nothing else. */
    private static Map<String, int[][]> zerosInManyWays() {
        int[] empty = {EPSILON, 0, 0};
        int[] zero = {TOKEN, 0, 0};
        Map<String, int[][]> all = new LinkedHashMap<>();
        all.put("right-recursive", new int[][] {{ALT, 1, 2}, empty, {SEQ, 3, 0}, zero});
        all.put("left-recursive", new int[][] {{ALT, 1, 2}, empty, {SEQ, 0, 3}, zero});
        all.put("left-recursive behind an empty word",
                new int[][] {{ALT, 2, 1}, empty, {SEQ, 4, 3}, zero, {SEQ, 1, 0}});
        all.put("left-recursive in a ring",
                new int[][] {{ALT, 1, 2}, empty, {SEQ, 4, 3}, zero, {ALT, 0, 5}, {ALT, 4, 0}});
        all.put("recursive on both sides", new int[][] {{ALT, 1, 2}, empty, {SEQ, 0, 4}, zero, {SEQ, 3, 0}});
        all.put("ambiguous", new int[][] {{ALT, 4, 2}, empty, {SEQ, 0, 0}, zero, {ALT, 1, 3}});
        all.put("ambiguous by itself", new int[][] {{ALT, 0, 4}, empty, {SEQ, 3, 0}, zero, {ALT, 1, 2}});
        all.put("nullable everywhere",
                new int[][] {{SEQ, 1, 2}, {ALT, 3, 2}, {ALT, 3, 4}, empty, {SEQ, 5, 0}, {ALT, 6, 3}, zero});
        all.put("with useless cells", new int[][] {{ALT, 1, 2}, empty, {ALT, 3, 5}, {SEQ, 4, 0}, zero,
            {SEQ, 0, 6}, {SEQ, 6, 4}, {ALT, 7, 7}, {SEQ, 8, 7}, {ALT, 9, 4}});
        return all;
    }

    private static void anyGrammarIsAllowed(Check check) {
        zerosInManyWays().forEach((name, cells) -> {
            for (int inputs = 0; inputs < 1 << 6; inputs++) {
                DerivativeParser x = grammar(cells, 5, 2);
                check.due("least, " + name, x.least(0), 0);
                check.due("open, " + name, x.open(0), ACCEPTED);
                zerosDue(check, name, x, inputs);
            }
        });
    }

    private static void zerosDue(Check check, String name, DerivativeParser x, int inputs) {
        int zeros = 0;
        for (int n = 0; n < 6; n++) {
            int token = inputs >> n & 1;
            boolean alive = zeros == n;
            String where = " behind " + n + " of input " + inputs + ", " + name;
            check.due("longest" + where, x.longest(), zeros);
            check.due("shortest" + where, x.shortest(), alive ? 0 : NONE);
            check.due("ahead(0)" + where, x.ahead(0), alive ? 0 : NONE);
            check.due("ahead(1)" + where, x.ahead(1), NONE);
            alive = alive && token == 0;
            check.due("feed(" + token + ")" + where, x.feed(token), n == 5 ? FULL : alive ? ACCEPTED : DEAD);
            zeros += alive ? 1 : 0;
        }
    }

    private static void tellsWhatCompletes(Check check) {
        languages().forEach((name, language) -> {
            DerivativeParser x = language.made(LEAST_M);
            x.open(0);
            completionsDue(check, name, language, x, "");
        });
    }

    /** Walks through all inputs; the words looked at to complete them have up to seven tokens. */
    private static void completionsDue(Check check, String name, Language language, DerivativeParser x,
            String word) {
        int rest = shortestRest(language, word);
        String where = name + " of '" + word + "'";
        check.due("shortest for " + where, x.shortest(), rest);
        check.due("verdict for " + where, x.verdict(), rest == 0 ? ACCEPTED : rest > 0 ? PARTIAL : DEAD);
        for (int token = 0; token < language.alphabet; token++) {
            check.due("ahead(" + token + ") for " + where, x.ahead(token), shortestRest(language, word + token));
            if (word.length() < LEAST_M) {
                x.feed(token);
                completionsDue(check, name, language, x, word + token);
                x.keep(word.length());
            }
        }
    }

    /** No word of up to five tokens needs more than seven to become one of these languages. */
    private static int shortestRest(Language language, String word) {
        for (int length = 0; length <= MOST_WORD; length++) {
            int count = (int) Math.pow(language.alphabet, length);
            for (int number = 0; number < count; number++) {
                String digits = Integer.toString(number, language.alphabet);
                String rest = length == 0 ? "" : "0".repeat(length - digits.length()) + digits;
                if (language.has.test(word + rest)) {
                    return length;
                }
            }
        }
        return NONE;
    }

    private static void cutToAnyLength(Check check) {
        languages().forEach((name, language) -> {
            for (int inputs = 0; inputs < 1 << MOST_WORD; inputs++) {
                DerivativeParser grown = language.made(MOST_WORD);
                grown.open(0);
                String[] seen = new String[MOST_WORD + 1];
                for (int n = 0; n < MOST_WORD; n++) {
                    seen[n] = Look.input(grown);
                    grown.feed(inputs >> n & 1);
                }
                seen[MOST_WORD] = Look.input(grown);
                cutDue(check, name, grown, seen, inputs);
            }
        });
    }

    /** From each length to each earlier one, and on from there to the whole input again. */
    private static void cutDue(Check check, String name, DerivativeParser x, String[] seen, int inputs) {
        for (int n = MOST_WORD; n >= 0; n--) {
            x.keep(n);
            check.same(name + " cut to " + n, Look.input(x), seen[n]);
            for (int next = n; next < MOST_WORD; next++) {
                x.feed(inputs >> next & 1);
                check.same(name + " cut to " + n + " and fed to " + next, Look.input(x), seen[next + 1]);
            }
        }
    }
}

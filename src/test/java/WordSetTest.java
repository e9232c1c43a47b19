import java.util.ArrayList;
import java.util.List;
import java.util.Random;
import java.util.TreeSet;

/**
 * The document's rules for languages taken at their word: on small random grammars all words of up
 * to six tokens are gathered by using the rules until nothing is added, and the answers are compared.
 */
public final class WordSetTest {
    private static final int MOST = 6;
    private static final int GRAMMARS = 300;
    private static final int CELLS = 6;

    private static final Check CHECK = new Check("WordSetTest");

    private final DerivativeParser x = new DerivativeParser(CELLS, MOST, 2);
    private final int[][] content = new int[CELLS][];
    private final List<TreeSet<String>> words = new ArrayList<>();

    public static void main(String[] args) {
        for (int seed = 0; seed < GRAMMARS; seed++) {
            new WordSetTest(seed).compareFrom("");
        }
        CHECK.end();
    }

    private WordSetTest(int seed) {
        Random random = new Random(seed);
        for (int cell = 0; cell < CELLS; cell++) {
            int kind = cell < 3 ? 3 + random.nextInt(2) : random.nextInt(5);
            int bound = kind == 2 ? 2 : CELLS;
            content[cell] = new int[] {kind, random.nextInt(bound), random.nextInt(CELLS)};
            CHECK.due("define", x.define(cell, kind, content[cell][1], content[cell][2]), 0);
            words.add(new TreeSet<>());
        }
        gather();
        for (int cell = 0; cell < CELLS; cell++) {
            compareLeast(cell);
        }
        x.open(0);
    }

    private void gather() {
        boolean changed = true;
        while (changed) {
            changed = false;
            for (int cell = 0; cell < CELLS; cell++) {
                changed |= words.get(cell).addAll(byRule(content[cell]));
            }
        }
    }

    private TreeSet<String> byRule(int[] cell) {
        TreeSet<String> result = new TreeSet<>();
        if (cell[0] == 1) {
            result.add("");
        } else if (cell[0] == 2) {
            result.add("" + cell[1]);
        } else if (cell[0] == 3) {
            result.addAll(words.get(cell[1]));
            result.addAll(words.get(cell[2]));
        } else if (cell[0] == 4) {
            for (String first : words.get(cell[1])) {
                for (String second : words.get(cell[2])) {
                    if (first.length() + second.length() <= MOST) {
                        result.add(first + second);
                    }
                }
            }
        }
        return result;
    }

    private void compareLeast(int cell) {
        lengthDue("least", x.least(cell), shortestAfter(cell, ""), MOST);
    }

    private int shortestAfter(int cell, String word) {
        int best = -1;
        for (String candidate : words.get(cell)) {
            int rest = candidate.length() - word.length();
            if (candidate.startsWith(word) && (best < 0 || rest < best)) {
                best = rest;
            }
        }
        return best;
    }

    /** What was not found among the gathered words may still be there, but longer than they are. */
    private void lengthDue(String call, int got, int found, int looked) {
        if (found >= 0) {
            CHECK.due(call, got, found);
        } else {
            CHECK.holds(call + " of " + got + " is none or above " + looked, got == -1 || got > looked);
        }
    }

    /** Walks through all words of up to six tokens; the object's input is this word at the start. */
    private void compareFrom(String word) {
        int looked = MOST - word.length();
        lengthDue("shortest after " + word, x.shortest(), shortestAfter(0, word), looked);
        CHECK.due("longest of " + word, x.longest(), longestOf(word));
        CHECK.holds("accepted " + word, (x.verdict() == 3) == words.get(0).contains(word));
        if (looked == 0) {
            return;
        }
        for (int token = 0; token < 2; token++) {
            String next = word + token;
            lengthDue("ahead to " + next, x.ahead(token), shortestAfter(0, next), looked - 1);
            boolean accepted = x.feed(token) == 3;
            CHECK.holds("fed " + next, accepted == words.get(0).contains(next));
            compareFrom(next);
            x.keep(word.length());
        }
    }

    private int longestOf(String word) {
        for (int n = word.length(); n >= 0; n--) {
            if (words.get(0).contains(word.substring(0, n))) {
                return n;
            }
        }
        return -1;
    }
}

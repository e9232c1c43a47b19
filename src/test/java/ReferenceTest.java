import java.util.Random;

/**
 * Runs of calls, good and bad, on random grammars, each answer compared with the reference. The
 * seeds are fixed, so every run of the test makes the same calls.
 */
public final class ReferenceTest {
    private static final int GRAMMARS = 3000;
    private static final int CALLS = 120;
    private static final int MOST_NODES = 20000;
    private static final int[] EDGES = {
        Integer.MIN_VALUE, -17, -2, -1, 0, 4, 8, 12, 13, 16, 17, 256, Integer.MAX_VALUE};

    private static final Check CHECK = new Check("ReferenceTest");

    private final Random random;
    private final String name;
    private final int cells;
    private final int alphabet;
    private final DerivativeParser x;
    private final ReferenceParser want;

    private ReferenceTest(int seed) {
        random = new Random(seed);
        name = "grammar " + seed + ": ";
        cells = 4 + random.nextInt(13);
        alphabet = 2 + random.nextInt(seed % 3 == 0 ? 7 : 2);
        int length = 4 + random.nextInt(9);
        x = new DerivativeParser(cells, length, alphabet);
        want = new ReferenceParser(cells, length, alphabet);
    }

    public static void main(String[] args) {
        for (int seed = 0; seed < GRAMMARS; seed++) {
            new ReferenceTest(seed).run();
        }
        CHECK.end();
    }

    private void run() {
        for (int cell = 0; cell < cells; cell++) {
            define(cell);
        }
        if (random.nextInt(4) == 0) {
            defineLongWords();
        }
        open();
        for (int call = 0; call < CALLS && want.nodeCount() < MOST_NODES; call++) {
            oneCall();
        }
        everyQuestion();
    }

    private void oneCall() {
        int dice = random.nextInt(100);
        if (dice < 55) {
            feedWell();
        } else if (dice < 65) {
            int n = number(want.size() + 1);
            due("keep(" + n + ")", x.keep(n), want.keep(n));
        } else if (dice < 68) {
            due("close()", x.close(), want.close());
            define(random.nextInt(cells));
            open();
        } else if (dice < 70) {
            define(random.nextInt(cells));
        } else if (dice < 72) {
            open();
        } else if (dice < 73) {
            due("close()", x.close(), want.close());
            everyQuestion();
        } else if (dice < 80) {
            int token = number(alphabet);
            due("feed(" + token + ")", x.feed(token), want.feed(token));
        } else if (dice < 90) {
            everyQuestion();
        } else {
            int token = number(alphabet);
            due("ahead(" + token + ")", x.ahead(token), want.ahead(token));
        }
    }

    /** Mostly a token that leaves the input alive, because dead inputs tell little. */
    private void feedWell() {
        int token = random.nextInt(alphabet);
        for (int i = 0; i < alphabet && want.ahead(token) < 0; i++) {
            token = (token + 1) % alphabet;
        }
        due("feed(" + token + ")", x.feed(token), want.feed(token));
    }

    private void open() {
        int cell = random.nextInt(20) == 0 ? number(cells) : 0;
        due("open(" + cell + ")", x.open(cell), want.open(cell));
    }

    private void define(int cell) {
        int target = random.nextInt(30) == 0 ? number(cells) : cell;
        int dice = random.nextInt(20);
        int kind = dice < 1 ? 0 : dice < 3 ? 1 : dice < 8 ? 2 : dice < 13 ? 3 : 4;
        if (random.nextInt(40) == 0) {
            kind = number(5);
        }
        int left = number(kind == 2 ? alphabet : cells);
        int right = number(cells);
        due("define(" + target + ", " + kind + ", " + left + ", " + right + ")",
                x.define(target, kind, left, right), want.define(target, kind, left, right));
    }

    /** Makes the upper half of the cells a chain in which each has words twice as long as the next. */
    private void defineLongWords() {
        for (int cell = cells / 2; cell < cells; cell++) {
            boolean last = cell == cells - 1;
            int kind = last ? 2 : 4;
            int side = last ? 0 : cell + 1;
            due("define(" + cell + ", " + kind + ", " + side + ", " + side + ")",
                    x.define(cell, kind, side, side), want.define(cell, kind, side, side));
        }
    }

    /** Mostly a number from 0 up to below the bound. */
    private int number(int bound) {
        if (bound < 1 || random.nextInt(25) == 0) {
            return EDGES[random.nextInt(EDGES.length)];
        }
        return random.nextInt(bound);
    }

    private void everyQuestion() {
        for (int cell = -1; cell <= cells; cell++) {
            due("kind(" + cell + ")", x.kind(cell), want.part(cell, 0));
            due("left(" + cell + ")", x.left(cell), want.part(cell, 1));
            due("right(" + cell + ")", x.right(cell), want.part(cell, 2));
            due("least(" + cell + ")", x.least(cell), want.least(cell));
        }
        for (int token = -1; token <= alphabet; token++) {
            due("ahead(" + token + ")", x.ahead(token), want.ahead(token));
        }
        due("root()", x.root(), want.root());
        due("size()", x.size(), want.size());
        due("verdict()", x.verdict(), want.verdict());
        due("shortest()", x.shortest(), want.shortest());
        due("longest()", x.longest(), want.longest());
        for (int place = -1; place <= want.size(); place++) {
            due("tokenAt(" + place + ")", x.tokenAt(place), want.tokenAt(place));
        }
    }

    private void due(String call, int got, int wanted) {
        CHECK.due(name + call, got, wanted);
    }
}

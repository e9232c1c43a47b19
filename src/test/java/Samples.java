import java.util.Arrays;
import java.util.LinkedHashMap;
import java.util.Map;
import java.util.function.Consumer;
import java.util.function.Supplier;

/** What the tests of sentences share: the document's names, numbers at edges, and sample objects. */
abstract class Samples {
    static final int EMPTY = DerivativeParser.EMPTY;
    static final int EPSILON = DerivativeParser.EPSILON;
    static final int TOKEN = DerivativeParser.TOKEN;
    static final int ALT = DerivativeParser.ALT;
    static final int SEQ = DerivativeParser.SEQ;
    static final int DEAD = DerivativeParser.DEAD;
    static final int PARTIAL = DerivativeParser.PARTIAL;
    static final int ACCEPTED = DerivativeParser.ACCEPTED;
    static final int OK = DerivativeParser.OK;
    static final int NONE = DerivativeParser.NONE;
    static final int CLOSED = DerivativeParser.CLOSED;
    static final int OPENED = DerivativeParser.OPENED;
    static final int BAD_CELL = DerivativeParser.BAD_CELL;
    static final int BAD_KIND = DerivativeParser.BAD_KIND;
    static final int BAD_LEFT = DerivativeParser.BAD_LEFT;
    static final int BAD_RIGHT = DerivativeParser.BAD_RIGHT;
    static final int BAD_TOKEN = DerivativeParser.BAD_TOKEN;
    static final int FULL = DerivativeParser.FULL;
    static final int BAD_PLACE = DerivativeParser.BAD_PLACE;
    static final int LOW = Integer.MIN_VALUE;
    static final int HIGH = Integer.MAX_VALUE;

    static final int LEAST_C = 4;
    static final int MOST_C = 16;
    static final int LEAST_M = 4;
    static final int MOST_M = 12;
    static final int LEAST_A = 2;
    static final int MOST_A = 8;

    /**
     * Numbers that are not in 0 .. bound-1, for bounds of up to 16: just outside, far outside, and
     * such as a shift, a product or a shorter type would wrap around into the bounds.
     */
    static int[] outside(int bound) {
        return new int[] {LOW, LOW + 1, -(1 << 28), -65536, -65535, -256, -255, -32, -16, -2, -1,
            bound, bound + 1, 32, 33, 256, 257, 65536, 65537, 1 << 24, 1 << 28, 1 << 30, HIGH - 1, HIGH};
    }

    /** Any numbers: those outside, and all that can be a cell, a token or a place. */
    static int[] anyNumbers() {
        int[] far = outside(17);
        int[] all = new int[far.length + 17];
        System.arraycopy(far, 0, all, 0, far.length);
        for (int n = 0; n < 17; n++) {
            all[far.length + n] = n;
        }
        return all;
    }

    static DerivativeParser fed(DerivativeParser x, int... tokens) {
        for (int token : tokens) {
            x.feed(token);
        }
        return x;
    }

    static DerivativeParser opened(DerivativeParser x, int root, int... tokens) {
        x.open(root);
        return fed(x, tokens);
    }

    static DerivativeParser closed(DerivativeParser x) {
        x.close();
        return x;
    }

    static DerivativeParser kept(DerivativeParser x, int n) {
        x.keep(n);
        return x;
    }

    static int[] times(int n, int token) {
        int[] result = new int[n];
        Arrays.fill(result, token);
        return result;
    }

    /** Cell 0 has the words 0^n 1^n with n of 1 or more; the cells 6 and 7 are never defined. */
    static DerivativeParser nested(int length) {
        DerivativeParser x = new DerivativeParser(8, length, 3);
        x.define(0, ALT, 1, 2);
        x.define(1, SEQ, 3, 4);
        x.define(2, SEQ, 3, 5);
        x.define(3, TOKEN, 0, 0);
        x.define(4, TOKEN, 1, 0);
        x.define(5, SEQ, 0, 4);
        return x;
    }

    /** Cell 0 has the words 01 any number of times, also none; cell 1 has the empty word alone. */
    static DerivativeParser pairs(int length) {
        DerivativeParser x = new DerivativeParser(8, length, 3);
        x.define(0, ALT, 1, 2);
        x.define(1, EPSILON, 0, 0);
        x.define(2, SEQ, 0, 3);
        x.define(3, SEQ, 4, 5);
        x.define(4, TOKEN, 0, 0);
        x.define(5, TOKEN, 1, 0);
        return x;
    }

    /** Cell 0 has all words over 0 and 1, each token with empty words before and behind it. */
    static DerivativeParser everything(int length) {
        DerivativeParser x = new DerivativeParser(8, length, 3);
        x.define(0, ALT, 1, 2);
        x.define(1, EPSILON, 0, 0);
        x.define(2, SEQ, 3, 0);
        x.define(3, SEQ, 1, 4);
        x.define(4, SEQ, 5, 1);
        x.define(5, ALT, 6, 7);
        x.define(6, TOKEN, 0, 0);
        x.define(7, TOKEN, 1, 0);
        return x;
    }

    /** Each cell is the next one twice: cell c has one word, of 2^(cells-1-c) tokens 0. */
    static DerivativeParser doubling(int cells, int length) {
        DerivativeParser x = new DerivativeParser(cells, length, 2);
        for (int cell = 0; cell < cells - 1; cell++) {
            x.define(cell, SEQ, cell + 1, cell + 1);
        }
        x.define(cells - 1, TOKEN, 0, 0);
        return x;
    }

    /** Cell 0 is 1 or 4096 times a 0 with cell 0 behind it: each 0 owes 8190 tokens more. */
    static DerivativeParser owing() {
        DerivativeParser x = new DerivativeParser(16, 12, 2);
        x.define(0, ALT, 1, 2);
        x.define(1, TOKEN, 1, 0);
        for (int cell = 2; cell < 14; cell++) {
            x.define(cell, SEQ, cell + 1, cell + 1);
        }
        x.define(14, SEQ, 15, 0);
        x.define(15, TOKEN, 0, 0);
        return x;
    }

    static Map<String, Supplier<DerivativeParser>> closedStates() {
        Map<String, Supplier<DerivativeParser>> states = new LinkedHashMap<>();
        states.put("new, least", () -> new DerivativeParser(4, 4, 2));
        states.put("new, greatest", () -> new DerivativeParser(16, 12, 8));
        states.put("cells defined", () -> nested(4));
        states.put("closed again", () -> closed(opened(nested(5), 5, 0, 1)));
        states.put("closed when full", () -> closed(opened(pairs(4), 0, 0, 1, 0, 1)));
        return states;
    }

    static Map<String, Supplier<DerivativeParser>> openStates() {
        Map<String, Supplier<DerivativeParser>> states = new LinkedHashMap<>();
        states.put("just opened", () -> opened(nested(4), 0));
        states.put("nullable root", () -> opened(pairs(5), 0));
        states.put("root without words", () -> opened(nested(4), 7));
        states.put("partial", () -> opened(nested(5), 0, 0, 0));
        states.put("partial behind a word", () -> opened(pairs(6), 0, 0, 1, 0));
        states.put("accepted", () -> opened(nested(5), 0, 0, 1));
        states.put("dead", () -> opened(nested(6), 0, 0, 1, 1));
        states.put("dead at once", () -> opened(nested(6), 0, 2, 1, 0));
        states.put("accepted otherwise", () -> opened(nested(5), 4, 1));
        states.put("empty words everywhere", () -> opened(everything(6), 0, 1, 0, 1));
        states.put("cut", () -> kept(opened(nested(6), 0, 0, 0, 1, 1), 2));
        states.put("opened anew", () -> opened(closed(opened(nested(5), 0, 1, 1, 1)), 5, 0, 1));
        states.putAll(fullStates());
        return states;
    }

    static Map<String, Supplier<DerivativeParser>> fullStates() {
        Map<String, Supplier<DerivativeParser>> states = new LinkedHashMap<>();
        states.put("full and partial", () -> opened(nested(4), 0, 0, 0, 0, 0));
        states.put("full and accepted", () -> opened(pairs(4), 0, 0, 1, 0, 1));
        states.put("full and dead", () -> opened(nested(4), 0, 1, 2, 2, 0));
        states.put("full of empty words", () -> opened(everything(5), 0, 1, 1, 0, 1, 0));
        states.put("greatest and full", () -> opened(owing(), 0, times(12, 0)));
        return states;
    }

    static Map<String, Supplier<DerivativeParser>> allStates() {
        Map<String, Supplier<DerivativeParser>> states = closedStates();
        states.putAll(openStates());
        return states;
    }

    /** The question changes nothing, whatever the state of the object. */
    static void asksOnly(Check check, String what, Consumer<DerivativeParser> question) {
        allStates().forEach((name, state) -> Look.nothingChanges(check, what + " in " + name, state, question));
    }
}

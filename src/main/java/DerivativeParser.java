/**
 * Recognises context-free languages token by token and tells how the input can be completed.
 *
 * For every stretch of the input the object remembers which cells have it as a word. A feed adds
 * the stretches that end behind the new token, so cutting the input back needs no work.
 */
public final class DerivativeParser {

    public static final int EMPTY = 0;
    public static final int EPSILON = 1;
    public static final int TOKEN = 2;
    public static final int ALT = 3;
    public static final int SEQ = 4;

    public static final int DEAD = 1;
    public static final int PARTIAL = 2;
    public static final int ACCEPTED = 3;

    public static final int OK = 0;
    public static final int NONE = -1;
    public static final int CLOSED = -2;
    public static final int OPENED = -3;
    public static final int BAD_CELL = -4;
    public static final int BAD_KIND = -5;
    public static final int BAD_LEFT = -6;
    public static final int BAD_RIGHT = -7;
    public static final int BAD_TOKEN = -8;
    public static final int FULL = -9;
    public static final int BAD_PLACE = -10;

    private static final int LEAST_CELLS = 4;
    private static final int MOST_CELLS = 16;
    private static final int LEAST_LENGTH = 4;
    private static final int MOST_LENGTH = 12;
    private static final int LEAST_ALPHABET = 2;
    private static final int MOST_ALPHABET = 8;

    /** One more than the longest input, because ahead() looks one token past a full input. */
    private static final int MOST_TOKENS = 13;
    /** The bounds of stretches of the longest input are 0 .. 12. */
    private static final int BOUNDS = 13;
    /** BOUNDS times BOUNDS. */
    private static final int STRETCHES = 169;
    /** MOST_CELLS times the 14 bounds that MOST_TOKENS tokens have. */
    private static final int TAILS = 224;

    /** Stands for the length of a word that does not exist: every true length is below it. */
    private static final int FAR = 1 << 24;

    private final int cellCount;
    private final int inputLimit;
    private final int tokenCount;

    private final int[] kinds = new int[MOST_CELLS];
    private final int[] lefts = new int[MOST_CELLS];
    private final int[] rights = new int[MOST_CELLS];
    /** By cell: the length of a shortest word, or FAR. Kept true by every define. */
    private final int[] leasts = new int[MOST_CELLS];

    private boolean isOpen;
    private int rootCell;
    private int inputLength;
    /** The input, and behind it what was cut away or only looked at, which counts for nothing. */
    private final int[] tokens = new int[MOST_TOKENS];
    /**
     * At from * BOUNDS + to: bit c is set if the tokens from .. to-1 are a word of cell c. It depends
     * on those tokens alone, so a longer or shorter input leaves it true.
     */
    private final int[] stretches = new int[STRETCHES];
    /**
     * At from * MOST_CELLS + c: the least number of tokens that make the input from there on a word
     * of cell c, or FAR. Worked out anew whenever it is asked for.
     */
    private final int[] tails = new int[TAILS];

    public DerivativeParser(int cells, int length, int alphabet) {
        cellCount = clamp(cells, LEAST_CELLS, MOST_CELLS);
        inputLimit = clamp(length, LEAST_LENGTH, MOST_LENGTH);
        tokenCount = clamp(alphabet, LEAST_ALPHABET, MOST_ALPHABET);
        measureCells();
    }

    public int define(int cell, int kind, int left, int right) {
        int fault = faultOf(cell, kind, left, right);
        if (fault != OK) {
            return fault;
        }
        boolean hasRight = kind == ALT || kind == SEQ;
        boolean hasLeft = hasRight || kind == TOKEN;
        kinds[cell] = kind;
        lefts[cell] = hasLeft ? left : 0;
        rights[cell] = hasRight ? right : 0;
        measureCells();
        return OK;
    }

    public int kind(int cell) {
        return isCell(cell) ? kinds[cell] : BAD_CELL;
    }

    public int left(int cell) {
        return isCell(cell) ? lefts[cell] : BAD_CELL;
    }

    public int right(int cell) {
        return isCell(cell) ? rights[cell] : BAD_CELL;
    }

    public int least(int cell) {
        if (!isCell(cell)) {
            return BAD_CELL;
        }
        return lengthOrNone(leasts[cell]);
    }

    public int open(int cell) {
        if (isOpen) {
            return OPENED;
        }
        if (!isCell(cell)) {
            return BAD_CELL;
        }
        isOpen = true;
        rootCell = cell;
        inputLength = 0;
        matchUpTo(0);
        return verdictFor(leasts[cell]);
    }

    public int close() {
        if (!isOpen) {
            return CLOSED;
        }
        isOpen = false;
        rootCell = 0;
        inputLength = 0;
        return OK;
    }

    public int root() {
        return isOpen ? rootCell : CLOSED;
    }

    public int feed(int token) {
        if (!isOpen) {
            return CLOSED;
        }
        if (!isToken(token)) {
            return BAD_TOKEN;
        }
        if (inputLength >= inputLimit) {
            return FULL;
        }
        tokens[inputLength] = token;
        inputLength++;
        matchUpTo(inputLength);
        int missing = tokensMissing(inputLength);
        return verdictFor(missing);
    }

    public int keep(int n) {
        if (!isOpen) {
            return CLOSED;
        }
        if (n < 0 || n > inputLength) {
            return BAD_PLACE;
        }
        inputLength = n;
        int missing = tokensMissing(inputLength);
        return verdictFor(missing);
    }

    public int size() {
        return isOpen ? inputLength : CLOSED;
    }

    public int tokenAt(int place) {
        if (!isOpen) {
            return CLOSED;
        }
        if (place < 0 || place >= inputLength) {
            return BAD_PLACE;
        }
        return tokens[place];
    }

    public int verdict() {
        if (!isOpen) {
            return CLOSED;
        }
        int missing = tokensMissing(inputLength);
        return verdictFor(missing);
    }

    public int shortest() {
        if (!isOpen) {
            return CLOSED;
        }
        int missing = tokensMissing(inputLength);
        return lengthOrNone(missing);
    }

    public int ahead(int token) {
        if (!isOpen) {
            return CLOSED;
        }
        if (!isToken(token)) {
            return BAD_TOKEN;
        }
        // The place behind the input is free, and the next feed writes it anew.
        tokens[inputLength] = token;
        int missing = tokensMissing(inputLength + 1);
        return lengthOrNone(missing);
    }

    public int longest() {
        if (!isOpen) {
            return CLOSED;
        }
        for (int n = inputLength; n >= 0; n--) {
            if (matches(rootCell, 0, n)) {
                return n;
            }
        }
        return NONE;
    }

    private static int clamp(int value, int least, int most) {
        if (value < least) {
            return least;
        }
        return value > most ? most : value;
    }

    private boolean isCell(int cell) {
        return cell >= 0 && cell < cellCount;
    }

    private boolean isToken(int token) {
        return token >= 0 && token < tokenCount;
    }

    private int faultOf(int cell, int kind, int left, int right) {
        if (isOpen) {
            return OPENED;
        }
        if (!isCell(cell)) {
            return BAD_CELL;
        }
        if (kind < EMPTY || kind > SEQ) {
            return BAD_KIND;
        }
        if (kind == TOKEN && !isToken(left)) {
            return BAD_TOKEN;
        }
        boolean hasSides = kind == ALT || kind == SEQ;
        if (hasSides && !isCell(left)) {
            return BAD_LEFT;
        }
        if (hasSides && !isCell(right)) {
            return BAD_RIGHT;
        }
        return OK;
    }

    private static int lengthOrNone(int length) {
        return length < FAR ? length : NONE;
    }

    private static int verdictFor(int missing) {
        if (missing == 0) {
            return ACCEPTED;
        }
        return missing < FAR ? PARTIAL : DEAD;
    }

    private static int smaller(int a, int b) {
        return a < b ? a : b;
    }

    /** The sum of two lengths, where FAR and anything is FAR. */
    private static int joined(int a, int b) {
        int sum = a + b;
        return sum < FAR ? sum : FAR;
    }

    /**
     * A shortest word can be shown to be there without a cell standing below itself, so its showing
     * is at most cellCount cells deep and each round gets one cell deeper. The same holds for the
     * rounds in matchStretch and measureTails.
     */
    private void measureCells() {
        for (int cell = 0; cell < cellCount; cell++) {
            leasts[cell] = FAR;
        }
        boolean changed = true;
        for (int round = 0; changed && round < cellCount; round++) {
            changed = false;
            for (int cell = 0; cell < cellCount; cell++) {
                int length = leastByRule(cell);
                if (length < leasts[cell]) {
                    leasts[cell] = length;
                    changed = true;
                }
            }
        }
    }

    private int leastByRule(int cell) {
        switch (kinds[cell]) {
            case EPSILON:
                return 0;
            case TOKEN:
                return 1;
            case ALT:
                return smaller(leasts[lefts[cell]], leasts[rights[cell]]);
            case SEQ:
                return joined(leasts[lefts[cell]], leasts[rights[cell]]);
            default:
                return FAR;
        }
    }

    /** Whether the tokens from .. to-1 are known to be a word of the cell. */
    private boolean matches(int cell, int from, int to) {
        return (stretches[from * BOUNDS + to] >> cell & 1) != 0;
    }

    /** Fills in the stretches that end at this bound; those that end before it must be there. */
    private void matchUpTo(int to) {
        int nullable = 0;
        for (int cell = 0; cell < cellCount; cell++) {
            if (leasts[cell] == 0) {
                nullable |= 1 << cell;
            }
        }
        stretches[to * BOUNDS + to] = nullable;
        for (int from = to - 1; from >= 0; from--) {
            matchStretch(from, to);
        }
    }

    private void matchStretch(int from, int to) {
        int at = from * BOUNDS + to;
        stretches[at] = 0;
        boolean changed = true;
        for (int round = 0; changed && round < cellCount; round++) {
            int before = stretches[at];
            for (int cell = 0; cell < cellCount; cell++) {
                if (matchesByRule(cell, from, to)) {
                    stretches[at] |= 1 << cell;
                }
            }
            changed = stretches[at] != before;
        }
    }

    /** For stretches of one token or more. */
    private boolean matchesByRule(int cell, int from, int to) {
        switch (kinds[cell]) {
            case TOKEN:
                return from + 1 == to && tokens[from] == lefts[cell];
            case ALT:
                return matches(lefts[cell], from, to) || matches(rights[cell], from, to);
            case SEQ:
                return matchesInTwo(lefts[cell], rights[cell], from, to);
            default:
                return false;
        }
    }

    private boolean matchesInTwo(int left, int right, int from, int to) {
        for (int middle = from; middle <= to; middle++) {
            if (matches(left, from, middle) && matches(right, middle, to)) {
                return true;
            }
        }
        return false;
    }

    /**
     * The length of a shortest word that completes the first `end` tokens to a word of the root, or
     * FAR. The stretches that end before `end` must be there; the others are not looked at.
     */
    private int tokensMissing(int end) {
        for (int cell = 0; cell < cellCount; cell++) {
            tails[end * MOST_CELLS + cell] = leasts[cell];
        }
        for (int from = end - 1; from >= 0; from--) {
            measureTails(from, end);
        }
        return tails[rootCell];
    }

    private void measureTails(int from, int end) {
        int row = from * MOST_CELLS;
        for (int cell = 0; cell < cellCount; cell++) {
            tails[row + cell] = FAR;
        }
        boolean changed = true;
        for (int round = 0; changed && round < cellCount; round++) {
            changed = false;
            for (int cell = 0; cell < cellCount; cell++) {
                int length = tailByRule(cell, from, end);
                if (length < tails[row + cell]) {
                    tails[row + cell] = length;
                    changed = true;
                }
            }
        }
    }

    /** For tails that begin with one token of the input or more. */
    private int tailByRule(int cell, int from, int end) {
        int row = from * MOST_CELLS;
        switch (kinds[cell]) {
            case TOKEN:
                return from + 1 == end && tokens[from] == lefts[cell] ? 0 : FAR;
            case ALT:
                return smaller(tails[row + lefts[cell]], tails[row + rights[cell]]);
            case SEQ:
                return tailInTwo(lefts[cell], rights[cell], from, end);
            default:
                return FAR;
        }
    }

    /** Either the left word reaches the end of the input, or the right word begins before it. */
    private int tailInTwo(int left, int right, int from, int end) {
        int best = joined(tails[from * MOST_CELLS + left], leasts[right]);
        for (int middle = from; middle < end; middle++) {
            if (matches(left, from, middle)) {
                best = smaller(best, tails[middle * MOST_CELLS + right]);
            }
        }
        return best;
    }
}

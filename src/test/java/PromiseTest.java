/** For each promise: ordinary inputs, the edges that the document names, and wrong inputs. */
public final class PromiseTest {
    private static final int EMPTY = DerivativeParser.EMPTY;
    private static final int EPSILON = DerivativeParser.EPSILON;
    private static final int TOKEN = DerivativeParser.TOKEN;
    private static final int ALT = DerivativeParser.ALT;
    private static final int SEQ = DerivativeParser.SEQ;
    private static final int DEAD = DerivativeParser.DEAD;
    private static final int PARTIAL = DerivativeParser.PARTIAL;
    private static final int ACCEPTED = DerivativeParser.ACCEPTED;
    private static final int OK = DerivativeParser.OK;
    private static final int NONE = DerivativeParser.NONE;
    private static final int CLOSED = DerivativeParser.CLOSED;
    private static final int OPENED = DerivativeParser.OPENED;
    private static final int BAD_CELL = DerivativeParser.BAD_CELL;
    private static final int BAD_KIND = DerivativeParser.BAD_KIND;
    private static final int BAD_LEFT = DerivativeParser.BAD_LEFT;
    private static final int BAD_RIGHT = DerivativeParser.BAD_RIGHT;
    private static final int BAD_TOKEN = DerivativeParser.BAD_TOKEN;
    private static final int FULL = DerivativeParser.FULL;
    private static final int BAD_PLACE = DerivativeParser.BAD_PLACE;
    private static final int LOW = Integer.MIN_VALUE;
    private static final int HIGH = Integer.MAX_VALUE;

    private static final Check CHECK = new Check("PromiseTest");

    public static void main(String[] args) {
        promise1Clamping();
        promise1Start();
        promise2Order();
        promise2Contents();
        promise2Languages();
        promises3To5CellParts();
        promise6Least();
        promise6LeastOfLongWords();
        promise7Open();
        promise8Close();
        promise9Root();
        promise10Feed();
        promise11Keep();
        promises12And13SizeAndTokens();
        promise14Verdict();
        promise15Shortest();
        promise15LongCompletions();
        promise15AddedUpCompletions();
        promise16Ahead();
        promise16AheadOfFullInput();
        promise17Longest();
        cyclesWithoutWords();
        languagesOfLateCells();
        longestChains();
        CHECK.end();
    }

    private static void due(String call, long got, long want) {
        CHECK.due(call, got, want);
    }

    /** Cell 0 has the words 0^n 1^n with n of 1 or more. */
    private static DerivativeParser nested(int length) {
        DerivativeParser x = new DerivativeParser(8, length, 3);
        x.define(0, ALT, 1, 2);
        x.define(1, SEQ, 3, 4);
        x.define(2, SEQ, 3, 5);
        x.define(3, TOKEN, 0, 0);
        x.define(4, TOKEN, 1, 0);
        x.define(5, SEQ, 0, 4);
        return x;
    }

    private static void promise1Clamping() {
        int[] given = {LOW, -1, 0, 3, 4, 5, 11, 15, 16, 17, HIGH};
        int[] cells = {4, 4, 4, 4, 4, 5, 11, 15, 16, 16, 16};
        for (int i = 0; i < given.length; i++) {
            DerivativeParser x = new DerivativeParser(given[i], 5, 5);
            due("kind of the last of " + given[i] + " cells", x.kind(cells[i] - 1), EMPTY);
            due("kind behind the last of " + given[i] + " cells", x.kind(cells[i]), BAD_CELL);
        }
        int[] lengths = {LOW, -1, 0, 3, 4, 5, 11, 12, 13, HIGH};
        int[] limits = {4, 4, 4, 4, 4, 5, 11, 12, 12, 12};
        for (int i = 0; i < lengths.length; i++) {
            DerivativeParser x = new DerivativeParser(5, lengths[i], 5);
            x.open(0);
            for (int n = 0; n < limits[i]; n++) {
                due("feed " + n + " of length " + lengths[i], x.feed(0), DEAD);
            }
            due("feed past length " + lengths[i], x.feed(0), FULL);
            due("size at length " + lengths[i], x.size(), limits[i]);
        }
        int[] alphabets = {LOW, -1, 0, 1, 2, 3, 7, 8, 9, HIGH};
        int[] counts = {2, 2, 2, 2, 2, 3, 7, 8, 8, 8};
        for (int i = 0; i < alphabets.length; i++) {
            DerivativeParser x = new DerivativeParser(5, 5, alphabets[i]);
            due("last token of " + alphabets[i], x.define(0, TOKEN, counts[i] - 1, 0), OK);
            due("token behind the last of " + alphabets[i], x.define(0, TOKEN, counts[i], 0), BAD_TOKEN);
        }
    }

    private static void promise1Start() {
        DerivativeParser x = new DerivativeParser(16, 12, 8);
        for (int cell = 0; cell < 16; cell++) {
            due("kind at the start", x.kind(cell), EMPTY);
            due("left at the start", x.left(cell), 0);
            due("right at the start", x.right(cell), 0);
            due("least at the start", x.least(cell), NONE);
        }
        due("root at the start", x.root(), CLOSED);
        due("size at the start", x.size(), CLOSED);
        DerivativeParser y = new DerivativeParser(16, 12, 8);
        x.define(0, TOKEN, 3, 0);
        due("another object's cell", y.kind(0), EMPTY);
    }

    private static void promise2Order() {
        DerivativeParser x = new DerivativeParser(5, 5, 3);
        x.define(1, TOKEN, 1, 0);
        due("bad cell first", x.define(5, 9, 9, 9), BAD_CELL);
        due("lowest cell", x.define(LOW, ALT, 0, 0), BAD_CELL);
        due("highest cell", x.define(HIGH, ALT, 0, 0), BAD_CELL);
        due("bad kind before the sides", x.define(1, 5, 9, 9), BAD_KIND);
        due("lowest kind", x.define(1, LOW, 0, 0), BAD_KIND);
        due("negative kind", x.define(1, -1, 0, 0), BAD_KIND);
        due("bad token", x.define(1, TOKEN, 3, 0), BAD_TOKEN);
        due("negative token", x.define(1, TOKEN, -1, 0), BAD_TOKEN);
        due("bad left before right", x.define(1, ALT, 5, 5), BAD_LEFT);
        due("bad left of a seq", x.define(1, SEQ, -1, 5), BAD_LEFT);
        due("bad right", x.define(1, ALT, 4, 5), BAD_RIGHT);
        due("bad right of a seq", x.define(1, SEQ, 4, -1), BAD_RIGHT);
        due("bad right, highest", x.define(1, SEQ, 4, HIGH), BAD_RIGHT);
        due("kind after refusals", x.kind(1), TOKEN);
        due("left after refusals", x.left(1), 1);
        due("right after refusals", x.right(1), 0);
        x.open(1);
        due("open comes first", x.define(9, 9, 9, 9), OPENED);
        due("open and right", x.define(1, EPSILON, 0, 0), OPENED);
        due("kind after that", x.kind(1), TOKEN);
        due("verdict after that", x.verdict(), PARTIAL);
    }

    private static void promise2Contents() {
        DerivativeParser x = new DerivativeParser(6, 5, 8);
        content(x, 0, new int[] {EMPTY, LOW, HIGH}, new int[] {0, 0});
        content(x, 1, new int[] {EPSILON, HIGH, LOW}, new int[] {0, 0});
        content(x, 2, new int[] {TOKEN, 7, HIGH}, new int[] {7, 0});
        content(x, 3, new int[] {ALT, 5, 3}, new int[] {5, 3});
        content(x, 4, new int[] {SEQ, 4, 0}, new int[] {4, 0});
        content(x, 3, new int[] {EPSILON, 5, 5}, new int[] {0, 0});
        content(x, 4, new int[] {TOKEN, 6, 5}, new int[] {6, 0});
        content(x, 4, new int[] {EMPTY, 6, 5}, new int[] {0, 0});
        due("another cell's kind", x.kind(2), TOKEN);
        due("another cell's left", x.left(2), 7);
        due("a cell never defined", x.kind(5), EMPTY);
        due("still closed", x.root(), CLOSED);
    }

    private static void content(DerivativeParser x, int cell, int[] given, int[] sides) {
        String which = "cell " + cell + " as kind " + given[0];
        due("define " + which, x.define(cell, given[0], given[1], given[2]), OK);
        due("kind of " + which, x.kind(cell), given[0]);
        due("left of " + which, x.left(cell), sides[0]);
        due("right of " + which, x.right(cell), sides[1]);
    }

    private static void promise2Languages() {
        DerivativeParser x = new DerivativeParser(4, 5, 2);
        x.define(0, SEQ, 1, 1);
        x.define(1, ALT, 2, 3);
        x.define(2, TOKEN, 0, 0);
        due("least of two tokens", x.least(0), 2);
        x.define(3, EPSILON, 0, 0);
        due("least once a part is nullable", x.least(0), 0);
        x.define(3, EMPTY, 0, 0);
        due("least once it is not any more", x.least(0), 2);
        x.define(2, EMPTY, 0, 0);
        due("least once nothing is left", x.least(0), NONE);
        x.define(2, TOKEN, 0, 0);
        due("open", x.open(0), PARTIAL);
        due("feed", x.feed(0), PARTIAL);
        due("feed again", x.feed(0), ACCEPTED);
        x.close();
        x.define(2, TOKEN, 1, 0);
        due("open after the change", x.open(0), PARTIAL);
        due("the old token", x.feed(0), DEAD);
        due("cut", x.keep(0), PARTIAL);
        due("the new token", x.feed(1), PARTIAL);
    }

    private static void promises3To5CellParts() {
        DerivativeParser x = new DerivativeParser(7, 5, 8);
        x.define(6, SEQ, 3, 5);
        x.define(5, TOKEN, 7, 3);
        int[] bad = {LOW, -1, 7, 16, HIGH};
        for (int turn = 0; turn < 2; turn++) {
            due("kind of a seq", x.kind(6), SEQ);
            due("left of a seq", x.left(6), 3);
            due("right of a seq", x.right(6), 5);
            due("kind of a token", x.kind(5), TOKEN);
            due("left of a token", x.left(5), 7);
            due("right of a token", x.right(5), 0);
            due("least of a token", x.least(5), 1);
            for (int cell : bad) {
                due("kind of bad cell " + cell, x.kind(cell), BAD_CELL);
                due("left of bad cell " + cell, x.left(cell), BAD_CELL);
                due("right of bad cell " + cell, x.right(cell), BAD_CELL);
                due("least of bad cell " + cell, x.least(cell), BAD_CELL);
            }
            if (turn == 0) {
                x.open(5);
                x.feed(7);
            }
        }
        due("size after looking", x.size(), 1);
        due("verdict after looking", x.verdict(), ACCEPTED);
    }

    private static void promise6Least() {
        DerivativeParser x = nested(4);
        for (int turn = 0; turn < 2; turn++) {
            due("least of the root", x.least(0), 2);
            due("least of the longer side", x.least(2), 4);
            due("least of the rest", x.least(5), 3);
            due("least of a token", x.least(3), 1);
            due("least of an empty cell", x.least(6), NONE);
            x.open(3);
            x.feed(1);
        }
        DerivativeParser y = new DerivativeParser(4, 4, 2);
        y.define(0, EPSILON, 0, 0);
        y.define(1, SEQ, 0, 0);
        y.define(2, SEQ, 1, 3);
        due("least of the empty word", y.least(0), 0);
        due("least of two empty words", y.least(1), 0);
        due("least of a seq with an empty side", y.least(2), NONE);
        y.define(2, SEQ, 3, 1);
        due("least of a seq with an empty left", y.least(2), NONE);
        y.define(2, ALT, 3, 1);
        due("least of an alt with an empty side", y.least(2), 0);
    }

    /** Each cell is the next one twice; both orders, as the order of cells must play no part. */
    private static void promise6LeastOfLongWords() {
        DerivativeParser down = new DerivativeParser(16, 4, 2);
        DerivativeParser up = new DerivativeParser(16, 4, 2);
        for (int cell = 0; cell < 15; cell++) {
            down.define(cell, SEQ, cell + 1, cell + 1);
            up.define(15 - cell, SEQ, 14 - cell, 14 - cell);
        }
        down.define(15, TOKEN, 0, 0);
        up.define(0, TOKEN, 0, 0);
        for (int cell = 0; cell < 16; cell++) {
            due("least down of cell " + cell, down.least(cell), 1 << 15 - cell);
            due("least up of cell " + cell, up.least(cell), 1 << cell);
        }
        down.define(15, EPSILON, 0, 0);
        due("least of many empty words", down.least(0), 0);
        down.define(15, EMPTY, 0, 0);
        due("least of nothing many times", down.least(0), NONE);
    }

    private static void promise7Open() {
        DerivativeParser x = nested(4);
        x.define(6, EPSILON, 0, 0);
        due("bad cell", x.open(8), BAD_CELL);
        due("negative cell", x.open(-1), BAD_CELL);
        due("lowest cell", x.open(LOW), BAD_CELL);
        due("closed after refusals", x.root(), CLOSED);
        due("open", x.open(0), PARTIAL);
        due("open again", x.open(0), OPENED);
        due("open a bad cell while open", x.open(99), OPENED);
        due("root after refusals", x.root(), 0);
        x.feed(0);
        x.close();
        due("open a nullable cell", x.open(6), ACCEPTED);
        due("size after opening", x.size(), 0);
        due("longest after opening", x.longest(), 0);
        x.close();
        due("open an empty cell", x.open(7), DEAD);
        due("root of a dead one", x.root(), 7);
        due("size of a dead one", x.size(), 0);
        due("cells do not change", x.kind(7), EMPTY);
    }

    private static void promise8Close() {
        DerivativeParser x = nested(4);
        due("close while closed", x.close(), CLOSED);
        x.open(0);
        x.feed(0);
        due("close", x.close(), OK);
        due("close again", x.close(), CLOSED);
        due("root", x.root(), CLOSED);
        due("feed", x.feed(0), CLOSED);
        due("cells stay", x.left(2), 3);
        due("cells can change again", x.define(7, TOKEN, 2, 0), OK);
        due("another root", x.open(3), PARTIAL);
        due("its size", x.size(), 0);
        due("its token", x.feed(0), ACCEPTED);
        x.close();
        due("the same root again", x.open(0), PARTIAL);
        due("its shortest", x.shortest(), 2);
        due("its longest", x.longest(), NONE);
    }

    private static void promise9Root() {
        DerivativeParser x = nested(4);
        due("root while closed", x.root(), CLOSED);
        x.open(5);
        due("root", x.root(), 5);
        x.feed(2);
        due("root after feeding", x.root(), 5);
        x.keep(0);
        due("root after cutting", x.root(), 5);
        x.close();
        x.open(0);
        due("the new root", x.root(), 0);
    }

    private static void promise10Feed() {
        DerivativeParser x = nested(4);
        due("closed before a bad token", x.feed(-1), CLOSED);
        x.open(0);
        due("bad token", x.feed(3), BAD_TOKEN);
        due("negative token", x.feed(-1), BAD_TOKEN);
        due("lowest token", x.feed(LOW), BAD_TOKEN);
        due("size after refusals", x.size(), 0);
        due("0", x.feed(0), PARTIAL);
        due("00", x.feed(0), PARTIAL);
        due("001", x.feed(1), PARTIAL);
        due("0011", x.feed(1), ACCEPTED);
        due("a full input", x.feed(0), FULL);
        due("a bad token to a full input", x.feed(3), BAD_TOKEN);
        due("size", x.size(), 4);
        due("verdict", x.verdict(), ACCEPTED);
        x.keep(1);
        due("02", x.feed(2), DEAD);
        due("feeding what is dead", x.feed(1), DEAD);
        due("its size", x.size(), 3);
        due("its last token", x.tokenAt(2), 1);
        due("its first token", x.tokenAt(0), 0);
        due("its root", x.root(), 0);
    }

    private static void promise11Keep() {
        DerivativeParser x = nested(6);
        due("closed before a bad place", x.keep(-1), CLOSED);
        x.open(0);
        due("nothing of nothing", x.keep(0), PARTIAL);
        due("more than there is", x.keep(1), BAD_PLACE);
        for (int token : new int[] {0, 0, 1, 1, 2}) {
            x.feed(token);
        }
        due("above the length", x.keep(6), BAD_PLACE);
        due("below 0", x.keep(-1), BAD_PLACE);
        due("lowest", x.keep(LOW), BAD_PLACE);
        due("highest", x.keep(HIGH), BAD_PLACE);
        due("size after refusals", x.size(), 5);
        due("all", x.keep(5), DEAD);
        due("four", x.keep(4), ACCEPTED);
        due("the cut token is gone", x.tokenAt(4), BAD_PLACE);
        due("the kept one is there", x.tokenAt(3), 1);
        due("cannot grow back", x.keep(5), BAD_PLACE);
        due("one", x.keep(1), PARTIAL);
        due("another way on", x.feed(1), ACCEPTED);
        due("longest of that", x.longest(), 2);
        due("none", x.keep(0), PARTIAL);
        due("size of none", x.size(), 0);
        due("still open", x.root(), 0);
    }

    private static void promises12And13SizeAndTokens() {
        DerivativeParser x = new DerivativeParser(4, 12, 8);
        due("size while closed", x.size(), CLOSED);
        due("a bad place while closed", x.tokenAt(-1), CLOSED);
        x.open(0);
        due("a place of no input", x.tokenAt(0), BAD_PLACE);
        for (int n = 0; n < 12; n++) {
            due("size " + n, x.size(), n);
            x.feed(n % 8);
        }
        due("size when full", x.size(), 12);
        x.feed(1);
        x.ahead(5);
        due("size after refusals and looks", x.size(), 12);
        for (int n = 0; n < 12; n++) {
            due("token " + n, x.tokenAt(n), n % 8);
        }
        due("the place behind the last", x.tokenAt(12), BAD_PLACE);
        due("a negative place", x.tokenAt(-1), BAD_PLACE);
        due("the lowest place", x.tokenAt(LOW), BAD_PLACE);
        due("the highest place", x.tokenAt(HIGH), BAD_PLACE);
        x.keep(3);
        due("size after cutting", x.size(), 3);
        x.ahead(7);
        due("size after looking ahead", x.size(), 3);
        due("the place looked ahead at", x.tokenAt(3), BAD_PLACE);
    }

    private static void promise14Verdict() {
        DerivativeParser x = nested(4);
        due("closed", x.verdict(), CLOSED);
        x.open(0);
        due("nothing yet", x.verdict(), PARTIAL);
        for (int n = 0; n < 4; n++) {
            x.feed(0);
        }
        due("completed only past M", x.verdict(), PARTIAL);
        x.keep(1);
        x.feed(1);
        due("accepted", x.verdict(), ACCEPTED);
        x.ahead(2);
        due("accepted still", x.verdict(), ACCEPTED);
        x.feed(1);
        due("dead", x.verdict(), DEAD);
        x.close();
        due("closed again", x.verdict(), CLOSED);
    }

    private static void promise15Shortest() {
        DerivativeParser x = nested(4);
        due("closed", x.shortest(), CLOSED);
        x.open(0);
        due("of nothing", x.shortest(), 2);
        for (int n = 1; n <= 4; n++) {
            x.feed(0);
            due("of " + n + " zeros", x.shortest(), n);
        }
        x.keep(2);
        x.feed(1);
        due("of 001", x.shortest(), 1);
        x.feed(1);
        due("of 0011", x.shortest(), 0);
        x.keep(2);
        x.feed(2);
        due("of 002", x.shortest(), NONE);
        due("verdict of 002", x.verdict(), DEAD);
    }

    /** The left side holds the input, and what is to come lies in the right sides above it. */
    private static void promise15LongCompletions() {
        DerivativeParser x = new DerivativeParser(16, 12, 2);
        x.define(15, TOKEN, 1, 0);
        for (int cell = 14; cell >= 3; cell--) {
            x.define(cell, SEQ, cell + 1, cell + 1);
        }
        x.define(2, TOKEN, 0, 0);
        x.define(1, SEQ, 0, 3);
        x.define(0, ALT, 2, 1);
        due("least", x.least(0), 1);
        due("least of the side", x.least(1), 4097);
        x.open(0);
        due("0", x.feed(0), ACCEPTED);
        for (int n = 1; n < 12; n++) {
            due("feed " + n, x.feed(1), PARTIAL);
            due("shortest " + n, x.shortest(), 4096 - n);
        }
        due("ahead of it", x.ahead(1), 4096 - 12);
        due("ahead of a wrong one", x.ahead(0), NONE);
        x.close();
        x.define(1, SEQ, 2, 0);
        x.define(0, ALT, 3, 1);
        x.open(0);
        for (int n = 1; n <= 12; n++) {
            x.feed(0);
            due("shortest behind " + n + " zeros", x.shortest(), 4096);
        }
    }

    /** Each 0 fed owes 1024 tokens more: the words are 0^n and then n times 1024 tokens 1. */
    private static void promise15AddedUpCompletions() {
        DerivativeParser x = new DerivativeParser(16, 12, 2);
        x.define(0, ALT, 1, 2);
        x.define(1, SEQ, 3, 4);
        x.define(2, SEQ, 3, 5);
        x.define(3, TOKEN, 0, 0);
        x.define(4, SEQ, 6, 6);
        x.define(5, SEQ, 0, 4);
        for (int cell = 6; cell < 15; cell++) {
            x.define(cell, SEQ, cell + 1, cell + 1);
        }
        x.define(15, TOKEN, 1, 0);
        due("least", x.least(0), 1025);
        x.open(0);
        for (int n = 1; n <= 12; n++) {
            due("ahead to " + n + " zeros", x.ahead(0), n * 1024);
            due("feed zero " + n, x.feed(0), PARTIAL);
            due("shortest after " + n + " zeros", x.shortest(), n * 1024);
        }
        due("ahead past a full input", x.ahead(0), 13 * 1024);
        due("ahead with a 1", x.ahead(1), 12 * 1024 - 1);
    }

    private static void promise16Ahead() {
        DerivativeParser x = nested(6);
        due("closed before a bad token", x.ahead(-1), CLOSED);
        due("closed", x.ahead(0), CLOSED);
        x.open(0);
        due("bad token", x.ahead(3), BAD_TOKEN);
        due("negative token", x.ahead(-1), BAD_TOKEN);
        due("highest token", x.ahead(HIGH), BAD_TOKEN);
        due("0 behind nothing", x.ahead(0), 1);
        due("1 behind nothing", x.ahead(1), NONE);
        x.feed(0);
        due("0 behind 0", x.ahead(0), 2);
        due("1 behind 0", x.ahead(1), 0);
        due("2 behind 0", x.ahead(2), NONE);
        due("size", x.size(), 1);
        due("verdict", x.verdict(), PARTIAL);
        due("shortest", x.shortest(), 1);
        due("longest", x.longest(), NONE);
        x.feed(2);
        due("behind what is dead", x.ahead(1), NONE);
    }

    private static void promise16AheadOfFullInput() {
        for (int length = 4; length <= 12; length++) {
            DerivativeParser x = nested(length);
            x.open(0);
            for (int n = 0; n < length; n++) {
                x.feed(0);
            }
            due("feed", x.feed(0), FULL);
            due("0 behind " + length + " zeros", x.ahead(0), length + 1);
            due("1 behind " + length + " zeros", x.ahead(1), length - 1);
            due("2 behind " + length + " zeros", x.ahead(2), NONE);
            due("a bad token", x.ahead(3), BAD_TOKEN);
            due("size", x.size(), length);
            due("shortest", x.shortest(), length);
        }
    }

    private static void promise17Longest() {
        DerivativeParser x = nested(6);
        due("closed", x.longest(), CLOSED);
        x.open(0);
        due("of nothing", x.longest(), NONE);
        x.feed(0);
        due("of 0", x.longest(), NONE);
        x.feed(1);
        due("of 01", x.longest(), 2);
        x.feed(1);
        due("of 011, which is dead", x.longest(), 2);
        x.ahead(1);
        due("after looking ahead", x.longest(), 2);
        x.keep(1);
        due("cut below it", x.longest(), NONE);
        // The words of cell 0 from here on: nothing, 01, 0101.
        DerivativeParser y = new DerivativeParser(8, 6, 2);
        y.define(0, ALT, 1, 2);
        y.define(1, EPSILON, 0, 0);
        y.define(2, SEQ, 3, 6);
        y.define(3, SEQ, 4, 5);
        y.define(4, TOKEN, 0, 0);
        y.define(5, TOKEN, 1, 0);
        y.define(6, ALT, 1, 3);
        y.open(0);
        due("the empty word", y.longest(), 0);
        y.feed(0);
        due("0, which is partial", y.longest(), 0);
        y.feed(0);
        due("00, which is dead", y.longest(), 0);
        y.keep(1);
        y.feed(1);
        due("01", y.longest(), 2);
        y.feed(0);
        due("010, which is partial", y.longest(), 2);
        y.feed(1);
        due("0101", y.longest(), 4);
        y.feed(0);
        due("01010, which is dead", y.longest(), 4);
    }

    private static void cyclesWithoutWords() {
        DerivativeParser x = new DerivativeParser(6, 4, 2);
        x.define(0, ALT, 0, 0);
        x.define(1, SEQ, 1, 2);
        x.define(2, EPSILON, 0, 0);
        x.define(3, SEQ, 2, 3);
        x.define(4, ALT, 5, 0);
        x.define(5, SEQ, 4, 2);
        for (int cell : new int[] {0, 1, 3, 4, 5}) {
            due("least of cycle " + cell, x.least(cell), NONE);
            due("open cycle " + cell, x.open(cell), DEAD);
            due("feed cycle " + cell, x.feed(0), DEAD);
            due("ahead of cycle " + cell, x.ahead(0), NONE);
            due("longest of cycle " + cell, x.longest(), NONE);
            x.close();
        }
        x.define(0, ALT, 0, 2);
        due("a cycle with a way out", x.least(4), 0);
        due("and around", x.least(5), 0);
    }

    /** A chain in which every cell waits for the next higher one, so that rounds are needed. */
    private static void languagesOfLateCells() {
        DerivativeParser x = new DerivativeParser(16, 12, 2);
        for (int cell = 0; cell < 13; cell++) {
            x.define(cell, ALT, cell, cell + 1);
        }
        x.define(13, SEQ, 14, 15);
        x.define(14, ALT, 14, 0);
        x.define(15, TOKEN, 1, 0);
        due("a chain around without words", x.open(0), DEAD);
        due("fed", x.feed(1), DEAD);
        x.close();
        x.define(14, EPSILON, 0, 0);
        due("a chain with a word", x.open(0), PARTIAL);
        due("its word", x.feed(1), ACCEPTED);
        due("its longest", x.longest(), 1);
        due("behind its word", x.ahead(1), NONE);
        x.close();
        x.define(14, TOKEN, 0, 0);
        due("a longer chain", x.open(0), PARTIAL);
        due("its first token", x.feed(0), PARTIAL);
        due("its shortest", x.shortest(), 1);
        due("its second token", x.feed(1), ACCEPTED);
    }

    /** All cells are one chain, up or down, so the root learns of its word last of all. */
    private static void longestChains() {
        for (int cells = 4; cells <= 16; cells++) {
            DerivativeParser up = new DerivativeParser(cells, 4, 2);
            DerivativeParser down = new DerivativeParser(cells, 4, 2);
            for (int cell = 0; cell < cells - 1; cell++) {
                up.define(cell, ALT, cell, cell + 1);
                down.define(cell + 1, ALT, cell, cell + 1);
            }
            up.define(cells - 1, TOKEN, 1, 0);
            down.define(0, TOKEN, 1, 0);
            chain(up, 0);
            chain(down, cells - 1);
        }
    }

    private static void chain(DerivativeParser x, int root) {
        due("least of a chain", x.least(root), 1);
        due("open a chain", x.open(root), PARTIAL);
        due("ahead of a chain", x.ahead(1), 0);
        due("feed a chain", x.feed(1), ACCEPTED);
        due("longest of a chain", x.longest(), 1);
        due("past a chain", x.feed(1), DEAD);
        due("longest past a chain", x.longest(), 1);
    }
}

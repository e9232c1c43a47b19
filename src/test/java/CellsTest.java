import java.util.function.Consumer;

/** The sentences of the promises 1 to 6: the start, and the cells. */
public final class CellsTest extends Samples {
    private static final int[][] CONTENTS = {{EMPTY, 0, 0}, {EPSILON, 0, 0}, {TOKEN, 2, 0}, {ALT, 5, 3}, {SEQ, 2, 5}};

    public static void main(String[] args) {
        Sentences all = new Sentences();
        list(all);
        all.run("CellsTest");
    }

    static void list(Sentences all) {
        all.section("Promise 1");
        all.test("C is cells clamped into 4 .. 16;", CellsTest::cellsAreClamped);
        all.test("M is length clamped into 4 .. 12;", CellsTest::lengthIsClamped);
        all.test("A is alphabet clamped into 2 .. 8.", CellsTest::alphabetIsClamped);
        all.test("Clamped means: a value below the least becomes the least, a value above the greatest becomes "
                + "the greatest, and any other value stays as it is.", CellsTest::clampedMeans);
        all.test("This holds for every int, negative ones included.", CellsTest::clampingHoldsForEveryInt);
        all.test("At the start the object is closed, and every cell 0 .. C-1 has kind EMPTY, left 0 and right 0.",
                CellsTest::start);
        all.test("C, M and A never change afterwards.", CellsTest::numbersNeverChange);

        all.section("Promise 2");
        all.test("define(cell, kind, left, right) gives a cell its content, in place of what it had before.",
                CellsTest::contentTakesThePlace);
        all.test("If open: OPENED.", CellsTest::defineWhileOpen);
        all.test("If cell is not in 0 .. C-1: BAD_CELL.", CellsTest::defineBadCell);
        all.test("If kind is not in 0 .. 4: BAD_KIND.", CellsTest::defineBadKind);
        all.test("If kind is TOKEN and left is not in 0 .. A-1: BAD_TOKEN.", CellsTest::defineBadToken);
        all.test("If kind is ALT or SEQ and left is not in 0 .. C-1: BAD_LEFT.", CellsTest::defineBadLeft);
        all.test("If kind is ALT or SEQ and right is not in 0 .. C-1: BAD_RIGHT.", CellsTest::defineBadRight);
        all.test("Otherwise the cell gets this kind, and", CellsTest::cellGetsTheKind);
        all.test("for EMPTY and EPSILON: left 0 and right 0; the arguments left and right are ignored, whatever "
                + "they are;", CellsTest::emptyAndEpsilonIgnoreSides);
        all.test("for TOKEN: the left given and right 0; the argument right is ignored, whatever it is;",
                CellsTest::tokenIgnoresRight);
        all.test("for ALT and SEQ: the left and right given.", CellsTest::altAndSeqTakeBoth);
        all.test("These may be any cells, also the cell itself or cells never defined.", CellsTest::sidesMayBeAnyCells);
        all.test("The answer is OK.", CellsTest::defineAnswersOk);
        all.test("The kind, left and right of all other cells do not change, and the object stays closed.",
                CellsTest::otherCellsStay);
        all.test("The languages of all cells are from then on those of the cells as they now are.",
                CellsTest::languagesFollow);

        all.section("Promise 3");
        all.test("kind(cell) answers BAD_CELL if cell is not in 0 .. C-1, else the kind of that cell.",
                CellsTest::kindOfCell);
        all.test("It answers alike whether the object is open or closed.", CellsTest::kindOpenOrClosed);
        all.test("It changes nothing.", check -> asksOnly(check, "kind", x -> askAll(x::kind)));

        all.section("Promise 4");
        all.test("left(cell) answers BAD_CELL if cell is not in 0 .. C-1, else the left number of that cell: 0 for "
                + "EMPTY and EPSILON, a token for TOKEN, a cell number for ALT and SEQ.", CellsTest::leftOfCell);
        all.test("It answers alike whether the object is open or closed.", CellsTest::leftOpenOrClosed);
        all.test("It changes nothing.", check -> asksOnly(check, "left", x -> askAll(x::left)));

        all.section("Promise 5");
        all.test("right(cell) answers BAD_CELL if cell is not in 0 .. C-1, else the right number of that cell: 0 for "
                + "EMPTY, EPSILON and TOKEN, a cell number for ALT and SEQ.", CellsTest::rightOfCell);
        all.test("It answers alike whether the object is open or closed.", CellsTest::rightOpenOrClosed);
        all.test("It changes nothing.", check -> asksOnly(check, "right", x -> askAll(x::right)));

        all.section("Promise 6");
        all.test("least(cell) answers BAD_CELL if cell is not in 0 .. C-1.", CellsTest::leastOfBadCell);
        all.test("Otherwise it answers the length of a shortest word of L(cell), which is 0 if the empty word is "
                + "there, or NONE if L(cell) has no word.", CellsTest::leastOfCell);
        all.test("The length is not limited by M.", CellsTest::leastIsNotLimited);
        all.test("It answers alike whether the object is open or closed; root and input play no part.",
                CellsTest::leastOpenOrClosed);
        all.test("It changes nothing.", check -> asksOnly(check, "least", x -> askAll(x::least)));
    }

    private interface Question {
        int ask(int cell);
    }

    private static void askAll(Question question) {
        for (int n : anyNumbers()) {
            question.ask(n);
        }
    }

    private static void cellsAreClamped(Check check) {
        int[] given = {LOW, -1, 0, 1, 3, 4, 5, 6, 7, 8, 9, 10, 11, 12, 13, 14, 15, 16, 17, 18, HIGH};
        int[] cells = {4, 4, 4, 4, 4, 4, 5, 6, 7, 8, 9, 10, 11, 12, 13, 14, 15, 16, 16, 16, 16};
        for (int i = 0; i < given.length; i++) {
            Bounds.due(check, new DerivativeParser(given[i], 5, 3), cells[i], 5, 3);
        }
    }

    private static void lengthIsClamped(Check check) {
        int[] given = {LOW, -1, 0, 1, 3, 4, 5, 6, 7, 8, 9, 10, 11, 12, 13, 14, HIGH};
        int[] lengths = {4, 4, 4, 4, 4, 4, 5, 6, 7, 8, 9, 10, 11, 12, 12, 12, 12};
        for (int i = 0; i < given.length; i++) {
            Bounds.due(check, new DerivativeParser(6, given[i], 3), 6, lengths[i], 3);
        }
    }

    private static void alphabetIsClamped(Check check) {
        int[] given = {LOW, -1, 0, 1, 2, 3, 4, 5, 6, 7, 8, 9, 10, HIGH};
        int[] alphabets = {2, 2, 2, 2, 2, 3, 4, 5, 6, 7, 8, 8, 8, 8};
        for (int i = 0; i < given.length; i++) {
            Bounds.due(check, new DerivativeParser(6, 5, given[i]), 6, 5, alphabets[i]);
        }
    }

    private static void clampedMeans(Check check) {
        Bounds.due(check, new DerivativeParser(3, 3, 1), 4, 4, 2);
        Bounds.due(check, new DerivativeParser(17, 13, 9), 16, 12, 8);
        Bounds.due(check, new DerivativeParser(4, 4, 2), 4, 4, 2);
        Bounds.due(check, new DerivativeParser(16, 12, 8), 16, 12, 8);
        Bounds.due(check, new DerivativeParser(11, 7, 5), 11, 7, 5);
        Bounds.due(check, new DerivativeParser(3, 13, 5), 4, 12, 5);
        Bounds.due(check, new DerivativeParser(17, 7, 1), 16, 7, 2);
        Bounds.due(check, new DerivativeParser(11, 3, 9), 11, 4, 8);
    }

    private static void clampingHoldsForEveryInt(Check check) {
        int[] negative = {LOW, LOW + 1, LOW + 6, -(1 << 28), -65536, -65530, -256, -250, -100, -7, -6, -5, -2, -1};
        int[] great = {100, 256, 262, 65536, 65542, 1 << 24, (1 << 24) + 6, 1 << 30, HIGH - 1, HIGH};
        for (int n : negative) {
            Bounds.due(check, new DerivativeParser(n, 5, 3), 4, 5, 3);
            Bounds.due(check, new DerivativeParser(6, n, 3), 6, 4, 3);
            Bounds.due(check, new DerivativeParser(6, 5, n), 6, 5, 2);
        }
        for (int n : great) {
            Bounds.due(check, new DerivativeParser(n, 5, 3), 16, 5, 3);
            Bounds.due(check, new DerivativeParser(6, n, 3), 6, 12, 3);
            Bounds.due(check, new DerivativeParser(6, 5, n), 6, 5, 8);
        }
    }

    private static void start(Check check) {
        for (int cells = LEAST_C; cells <= MOST_C; cells++) {
            // Another object's cells must not be found in a new one.
            nested(4);
            DerivativeParser x = new DerivativeParser(cells, 5, 3);
            check.due("root", x.root(), CLOSED);
            check.due("size", x.size(), CLOSED);
            check.due("close", x.close(), CLOSED);
            for (int cell = 0; cell < cells; cell++) {
                check.due("kind of cell " + cell, x.kind(cell), EMPTY);
                check.due("left of cell " + cell, x.left(cell), 0);
                check.due("right of cell " + cell, x.right(cell), 0);
                check.due("least of cell " + cell, x.least(cell), NONE);
            }
            check.due("open", x.open(cells - 1), DEAD);
        }
    }

    private static void numbersNeverChange(Check check) {
        int[][] sizes = {{4, 4, 2}, {16, 12, 8}, {7, 6, 3}};
        for (int[] size : sizes) {
            DerivativeParser x = new DerivativeParser(size[0], size[1], size[2]);
            for (int turn = 0; turn < 3; turn++) {
                callEverything(x);
                x.close();
                Bounds.due(check, x, size[0], size[1], size[2]);
            }
        }
    }

    private static void callEverything(DerivativeParser x) {
        for (int n : anyNumbers()) {
            x.define(n, SEQ, n, n);
            x.define(1, n, 0, 0);
            x.define(2, TOKEN, n, n);
            x.open(n);
            x.feed(n);
            x.ahead(n);
            x.keep(n);
            x.tokenAt(n);
            x.close();
        }
        opened(x, 2, times(MOST_M + 2, 1));
        Look.all(x);
    }

    private static void contentDue(Check check, DerivativeParser x, int cell, int[] content) {
        String which = "cell " + cell + " of kind " + content[0];
        check.due("kind of " + which, x.kind(cell), content[0]);
        check.due("left of " + which, x.left(cell), content[1]);
        check.due("right of " + which, x.right(cell), content[2]);
    }

    /** Every content behind every other: nothing of the one before is left. */
    private static void contentTakesThePlace(Check check) {
        for (int[] before : CONTENTS) {
            for (int[] after : CONTENTS) {
                DerivativeParser x = contentsSample();
                x.define(1, before[0], before[1], before[2]);
                contentDue(check, x, 1, before);
                x.define(1, after[0], after[1], after[2]);
                contentDue(check, x, 1, after);
                DerivativeParser y = contentsSample();
                y.define(1, after[0], after[1], after[2]);
                check.same("all answers", Look.all(opened(x, 1, 2)), Look.all(opened(y, 1, 2)));
            }
        }
    }

    private static DerivativeParser contentsSample() {
        DerivativeParser x = new DerivativeParser(6, 5, 3);
        x.define(2, TOKEN, 2, 0);
        x.define(3, EPSILON, 0, 0);
        x.define(5, TOKEN, 1, 0);
        return x;
    }

    private static void defineWhileOpen(Check check) {
        openStates().forEach((name, state) -> {
            DerivativeParser x = state.get();
            for (int[] content : CONTENTS) {
                check.due("define " + content[0] + ", " + name, x.define(0, content[0], 1, 1), OPENED);
            }
            check.due("define what is bad, " + name, x.define(-1, 9, -1, -1), OPENED);
            x.close();
            check.due("define once closed, " + name, x.define(0, EPSILON, 0, 0), OK);
        });
    }

    private static void defineBadCell(Check check) {
        for (int cells = LEAST_C; cells <= MOST_C; cells++) {
            DerivativeParser x = new DerivativeParser(cells, 5, 3);
            for (int bad : outside(cells)) {
                for (int[] content : CONTENTS) {
                    check.due("define(" + bad + ") of " + cells, x.define(bad, content[0], 1, 1), BAD_CELL);
                }
                check.due("define(" + bad + ") with all bad", x.define(bad, 5, 99, 99), BAD_CELL);
            }
            check.due("the first of " + cells, x.define(0, EPSILON, 0, 0), OK);
            check.due("the last of " + cells, x.define(cells - 1, EPSILON, 0, 0), OK);
        }
    }

    private static void defineBadKind(Check check) {
        DerivativeParser x = nested(4);
        String before = Look.all(x);
        for (int bad : outside(5)) {
            check.due("kind " + bad, x.define(0, bad, 1, 1), BAD_KIND);
            check.due("kind " + bad + " with bad sides", x.define(0, bad, -1, 99), BAD_KIND);
        }
        check.same("all answers behind it", Look.all(x), before);
        for (int kind = 0; kind <= 4; kind++) {
            check.due("kind " + kind, x.define(0, kind, 1, 1), OK);
        }
    }

    /** Once with more tokens than cells and once with less, as cells must play no part. */
    private static void defineBadToken(Check check) {
        for (int cells : new int[] {LEAST_C, MOST_C}) {
            for (int alphabet = LEAST_A; alphabet <= MOST_A; alphabet++) {
                DerivativeParser x = new DerivativeParser(cells, 4, alphabet);
                for (int token = 0; token < alphabet; token++) {
                    check.due("token " + token + " of " + alphabet, x.define(1, TOKEN, token, 0), OK);
                }
                for (int bad : outside(alphabet)) {
                    check.due("token " + bad + " of " + alphabet, x.define(1, TOKEN, bad, 0), BAD_TOKEN);
                    check.due("token " + bad + " with a bad right", x.define(1, TOKEN, bad, -1), BAD_TOKEN);
                }
                check.due("left behind it", x.left(1), alphabet - 1);
            }
        }
    }

    private static void defineBadLeft(Check check) {
        for (int cells = LEAST_C; cells <= MOST_C; cells++) {
            for (int kind = ALT; kind <= SEQ; kind++) {
                DerivativeParser x = new DerivativeParser(cells, 4, cells % 2 == 0 ? 2 : 8);
                for (int bad : outside(cells)) {
                    check.due("left " + bad + " of " + cells, x.define(1, kind, bad, 1), BAD_LEFT);
                    check.due("left " + bad + " with a bad right", x.define(1, kind, bad, bad), BAD_LEFT);
                }
                check.due("kind behind it", x.kind(1), EMPTY);
                check.due("the first of " + cells, x.define(1, kind, 0, 1), OK);
                check.due("the last of " + cells, x.define(1, kind, cells - 1, 1), OK);
            }
        }
    }

    private static void defineBadRight(Check check) {
        for (int cells = LEAST_C; cells <= MOST_C; cells++) {
            for (int kind = ALT; kind <= SEQ; kind++) {
                DerivativeParser x = new DerivativeParser(cells, 4, cells % 2 == 0 ? 2 : 8);
                for (int bad : outside(cells)) {
                    check.due("right " + bad + " of " + cells, x.define(1, kind, 1, bad), BAD_RIGHT);
                }
                check.due("kind behind it", x.kind(1), EMPTY);
                check.due("the first of " + cells, x.define(1, kind, 1, 0), OK);
                check.due("the last of " + cells, x.define(1, kind, 1, cells - 1), OK);
            }
        }
    }

    private static void cellGetsTheKind(Check check) {
        for (int cell = 0; cell < 6; cell++) {
            for (int kind = EMPTY; kind <= SEQ; kind++) {
                DerivativeParser x = new DerivativeParser(6, 5, 3);
                x.define(cell, kind, 2, 2);
                check.due("kind of cell " + cell, x.kind(cell), kind);
            }
        }
    }

    private static void emptyAndEpsilonIgnoreSides(Check check) {
        for (int kind = EMPTY; kind <= EPSILON; kind++) {
            for (int left : anyNumbers()) {
                for (int right : anyNumbers()) {
                    DerivativeParser x = nested(4);
                    check.due("define", x.define(2, kind, left, right), OK);
                    contentDue(check, x, 2, new int[] {kind, 0, 0});
                }
            }
        }
    }

    private static void tokenIgnoresRight(Check check) {
        for (int token = 0; token < 8; token++) {
            for (int right : anyNumbers()) {
                DerivativeParser x = new DerivativeParser(4, 4, 8);
                x.define(2, SEQ, 3, 3);
                check.due("define", x.define(2, TOKEN, token, right), OK);
                contentDue(check, x, 2, new int[] {TOKEN, token, 0});
            }
        }
    }

    private static void altAndSeqTakeBoth(Check check) {
        DerivativeParser x = new DerivativeParser(16, 4, 2);
        for (int kind = ALT; kind <= SEQ; kind++) {
            for (int left = 0; left < 16; left++) {
                for (int right = 0; right < 16; right++) {
                    x.define(9, kind, left, right);
                    contentDue(check, x, 9, new int[] {kind, left, right});
                }
            }
        }
    }

    private static void sidesMayBeAnyCells(Check check) {
        for (int kind = ALT; kind <= SEQ; kind++) {
            DerivativeParser x = new DerivativeParser(5, 4, 2);
            check.due("itself on both sides", x.define(0, kind, 0, 0), OK);
            check.due("least of itself", x.least(0), NONE);
            check.due("itself on the left", x.define(0, kind, 0, 1), OK);
            check.due("itself on the right", x.define(0, kind, 1, 0), OK);
            check.due("cells never defined", x.define(0, kind, 4, 3), OK);
            contentDue(check, x, 0, new int[] {kind, 4, 3});
            check.due("least of cells never defined", x.least(0), NONE);
            x.define(3, TOKEN, 1, 0);
            x.define(4, TOKEN, 0, 0);
            check.due("least of them once defined", x.least(0), kind == ALT ? 1 : 2);
        }
    }

    private static void defineAnswersOk(Check check) {
        for (int cell = 0; cell < 6; cell++) {
            DerivativeParser x = new DerivativeParser(6, 5, 3);
            for (int[] content : CONTENTS) {
                check.due("define", x.define(cell, content[0], content[1], content[2]), OK);
                check.due("the same again", x.define(cell, content[0], content[1], content[2]), OK);
            }
        }
    }

    private static void otherCellsStay(Check check) {
        for (int cell = 0; cell < 16; cell++) {
            for (int[] content : CONTENTS) {
                DerivativeParser x = new DerivativeParser(16, 5, 8);
                for (int other = 0; other < 16; other++) {
                    x.define(other, ALT, 15 - other, other);
                }
                x.define(cell, content[0], content[1], content[2]);
                for (int other = 0; other < 16; other++) {
                    contentDue(check, x, other, other == cell ? content : new int[] {ALT, 15 - other, other});
                }
                check.due("root", x.root(), CLOSED);
                check.due("close", x.close(), CLOSED);
            }
        }
    }

    private static void languagesFollow(Check check) {
        DerivativeParser x = new DerivativeParser(4, 5, 2);
        x.define(0, SEQ, 1, 1);
        x.define(1, ALT, 2, 3);
        x.define(2, TOKEN, 0, 0);
        check.due("least of two tokens", x.least(0), 2);
        x.define(3, EPSILON, 0, 0);
        check.due("least once a part can be empty", x.least(0), 0);
        check.due("open then", opened(x, 0).verdict(), ACCEPTED);
        closed(x).define(3, EMPTY, 0, 0);
        check.due("least once it can no more", x.least(0), 2);
        x.define(2, EMPTY, 0, 0);
        check.due("least once nothing is left", x.least(0), NONE);
        check.due("open then", opened(x, 0).verdict(), DEAD);
        closed(x).define(2, TOKEN, 0, 0);
        check.due("00", fed(opened(x, 0), 0).feed(0), ACCEPTED);
        closed(x).define(2, TOKEN, 1, 0);
        check.due("0 once the token is 1", opened(x, 0).feed(0), DEAD);
        check.due("11 once the token is 1", fed(kept(x, 0), 1).feed(1), ACCEPTED);
    }

    /** One cell of each kind; cell 4 is a SEQ of the cells 2 and 5. */
    private static DerivativeParser oneOfEachKind() {
        DerivativeParser x = new DerivativeParser(6, 5, 3);
        for (int cell = 0; cell < 5; cell++) {
            x.define(cell, CONTENTS[cell][0], CONTENTS[cell][1], CONTENTS[cell][2]);
        }
        return x;
    }

    private static void partDue(Check check, Question question, int part) {
        for (int cell = 0; cell < 5; cell++) {
            check.due("of cell " + cell, question.ask(cell), CONTENTS[cell][part]);
        }
        check.due("of a cell never defined", question.ask(5), 0);
        for (int bad : outside(6)) {
            check.due("of " + bad, question.ask(bad), BAD_CELL);
        }
    }

    /** The cells' bound is C, not the greatest that C can be. */
    private static void boundDue(Check check, int cells, Question question) {
        check.holds("the first of " + cells, question.ask(0) >= 0);
        check.holds("the last of " + cells, question.ask(cells - 1) >= 0);
        for (int bad : outside(cells)) {
            check.due("of " + bad + " with C " + cells, question.ask(bad), BAD_CELL);
        }
    }

    private static void kindOfCell(Check check) {
        partDue(check, oneOfEachKind()::kind, 0);
        for (int cells = LEAST_C; cells <= MOST_C; cells++) {
            boundDue(check, cells, new DerivativeParser(cells, 4, 2)::kind);
        }
    }

    private static void leftOfCell(Check check) {
        partDue(check, oneOfEachKind()::left, 1);
        for (int cells = LEAST_C; cells <= MOST_C; cells++) {
            boundDue(check, cells, new DerivativeParser(cells, 4, 2)::left);
        }
    }

    private static void rightOfCell(Check check) {
        partDue(check, oneOfEachKind()::right, 2);
        for (int cells = LEAST_C; cells <= MOST_C; cells++) {
            boundDue(check, cells, new DerivativeParser(cells, 4, 2)::right);
        }
    }

    /** Every root, and inputs that are partial, accepted, dead and full. */
    private static void openOrClosed(DerivativeParser x, Consumer<DerivativeParser> due) {
        due.accept(x);
        for (int root = 0; root < 6; root++) {
            x.open(root);
            for (int n = 0; n <= 5; n++) {
                due.accept(x);
                x.feed((n + root) % 3);
            }
            x.keep(1);
            due.accept(x);
            x.close();
            due.accept(x);
        }
    }

    private static void kindOpenOrClosed(Check check) {
        openOrClosed(oneOfEachKind(), x -> partDue(check, x::kind, 0));
    }

    private static void leftOpenOrClosed(Check check) {
        openOrClosed(oneOfEachKind(), x -> partDue(check, x::left, 1));
    }

    private static void rightOpenOrClosed(Check check) {
        openOrClosed(oneOfEachKind(), x -> partDue(check, x::right, 2));
    }

    private static void leastOfBadCell(Check check) {
        for (int cells = LEAST_C; cells <= MOST_C; cells++) {
            DerivativeParser x = new DerivativeParser(cells, 4, 2);
            x.define(0, EPSILON, 0, 0);
            x.define(cells - 1, TOKEN, 0, 0);
            boundDue(check, cells, x::least);
            x.open(0);
            boundDue(check, cells, x::least);
        }
    }

    private static void leastOfCell(Check check) {
        DerivativeParser x = nested(4);
        int[] lengths = {2, 2, 4, 1, 1, 3, NONE, NONE};
        for (int cell = 0; cell < 8; cell++) {
            check.due("least of cell " + cell, x.least(cell), lengths[cell]);
        }
        x.define(6, EPSILON, 0, 0);
        check.due("least of the empty word", x.least(6), 0);
        x.define(0, ALT, 2, 6);
        check.due("the empty word on the right", x.least(0), 0);
        x.define(0, ALT, 6, 2);
        check.due("the empty word on the left", x.least(0), 0);
        x.define(0, SEQ, 6, 6);
        check.due("two empty words", x.least(0), 0);
        x.define(0, SEQ, 6, 3);
        check.due("an empty word before a token", x.least(0), 1);
        x.define(0, SEQ, 7, 6);
        check.due("no word before an empty one", x.least(0), NONE);
        x.define(0, SEQ, 6, 7);
        check.due("no word behind an empty one", x.least(0), NONE);
        x.define(0, ALT, 7, 3);
        check.due("no word or a token", x.least(0), 1);
        shorterSideDue(check, 0, 1, 2);
        shorterSideDue(check, 2, 1, 0);
    }

    private static void shorterSideDue(Check check, int one, int two, int either) {
        DerivativeParser x = new DerivativeParser(4, 4, 2);
        x.define(one, TOKEN, 0, 0);
        x.define(two, SEQ, one, one);
        x.define(either, ALT, two, one);
        check.due("the shorter on the right", x.least(either), 1);
        x.define(either, ALT, one, two);
        check.due("the shorter on the left", x.least(either), 1);
    }

    private static void leastIsNotLimited(Check check) {
        for (int length = LEAST_M; length <= MOST_M; length++) {
            DerivativeParser x = doubling(16, length);
            for (int cell = 0; cell < 16; cell++) {
                check.due("least of cell " + cell + " with M " + length, x.least(cell), 1 << 15 - cell);
            }
        }
    }

    private static void leastOpenOrClosed(Check check) {
        int[] lengths = {2, 2, 4, 1, 1, 3, 0, NONE};
        DerivativeParser sample = nested(5);
        sample.define(6, EPSILON, 0, 0);
        openOrClosed(sample, x -> {
            for (int cell = 0; cell < 8; cell++) {
                check.due("least of cell " + cell, x.least(cell), lengths[cell]);
            }
            for (int bad : outside(8)) {
                check.due("least of " + bad, x.least(bad), BAD_CELL);
            }
        });
    }
}

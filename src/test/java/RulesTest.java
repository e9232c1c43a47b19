import java.util.ArrayList;
import java.util.List;
import java.util.function.Supplier;
import java.util.function.ToIntFunction;

/** The sentences of the document's "Rules for every call". */
public final class RulesTest extends Samples {
    private static final class Call {
        final String name;
        final ToIntFunction<DerivativeParser> make;

        Call(String name, ToIntFunction<DerivativeParser> make) {
            this.name = name;
            this.make = make;
        }
    }

    public static void main(String[] args) {
        Sentences all = new Sentences();
        list(all);
        all.run("RulesTest");
    }

    static void list(Sentences all) {
        all.section("Rules for every call");
        all.test("Every call that answers a negative number changes nothing.", RulesTest::negativeChangesNothing);
        all.test("Where a promise lists numbered conditions, they are considered in the order written, and "
                + "the first that applies decides the answer.", RulesTest::firstConditionDecides);
        all.test("Arguments may be any int values.", RulesTest::argumentsMayBeAnyInt);
        all.test("Every length answered by least, shortest and ahead is below 2 to the power 24, whatever the "
                + "grammar and input, and is answered exactly.", RulesTest::lengthsAreExact);
    }

    private static void negativeChangesNothing(Check check) {
        List<Call> calls = manyCalls();
        allStates().forEach((name, state) -> {
            for (Call call : calls) {
                negativeChangesNothing(check, name, state, call);
            }
        });
    }

    private static void negativeChangesNothing(Check check, String name, Supplier<DerivativeParser> state,
            Call call) {
        int answer = call.make.applyAsInt(state.get());
        if (answer < 0) {
            String what = name + " behind " + call.name + " answered " + answer;
            Look.nothingChanges(check, what, state, call.make::applyAsInt);
        }
    }

    private static List<Call> manyCalls() {
        List<Call> calls = new ArrayList<>();
        calls.add(new Call("close", DerivativeParser::close));
        calls.add(new Call("root", DerivativeParser::root));
        calls.add(new Call("size", DerivativeParser::size));
        calls.add(new Call("verdict", DerivativeParser::verdict));
        calls.add(new Call("shortest", DerivativeParser::shortest));
        calls.add(new Call("longest", DerivativeParser::longest));
        for (int n : new int[] {LOW, -1, 0, 1, 2, 3, 4, 5, 8, 12, 13, 16, HIGH}) {
            calls.add(new Call("kind(" + n + ")", x -> x.kind(n)));
            calls.add(new Call("left(" + n + ")", x -> x.left(n)));
            calls.add(new Call("right(" + n + ")", x -> x.right(n)));
            calls.add(new Call("least(" + n + ")", x -> x.least(n)));
            calls.add(new Call("open(" + n + ")", x -> x.open(n)));
            calls.add(new Call("feed(" + n + ")", x -> x.feed(n)));
            calls.add(new Call("keep(" + n + ")", x -> x.keep(n)));
            calls.add(new Call("tokenAt(" + n + ")", x -> x.tokenAt(n)));
            calls.add(new Call("ahead(" + n + ")", x -> x.ahead(n)));
        }
        addDefines(calls);
        return calls;
    }

    /** Each refused for one reason, and some that are refused only while open. */
    private static void addDefines(List<Call> calls) {
        int[][] contents = {{-1, TOKEN, 1, 0}, {16, TOKEN, 1, 0}, {2, -1, 1, 1}, {2, 5, 1, 1}, {2, HIGH, 1, 1},
            {2, TOKEN, -1, 0}, {3, TOKEN, 8, 0}, {0, TOKEN, HIGH, 0}, {0, ALT, -1, 1}, {0, ALT, 16, 1},
            {3, SEQ, -1, 1}, {3, SEQ, 16, 1}, {0, ALT, 1, -1}, {0, ALT, 1, 16}, {2, SEQ, 1, LOW},
            {2, SEQ, 1, 16}, {0, EMPTY, 0, 0}, {2, EPSILON, 0, 0}, {3, TOKEN, 1, 0}, {0, ALT, 3, 3},
            {2, SEQ, 3, 3}};
        for (int[] c : contents) {
            String name = "define(" + c[0] + ", " + c[1] + ", " + c[2] + ", " + c[3] + ")";
            calls.add(new Call(name, x -> x.define(c[0], c[1], c[2], c[3])));
        }
    }

    private static void firstConditionDecides(Check check) {
        int[][] sizes = {{4, 4, 8}, {16, 5, 2}, {7, 12, 5}};
        for (int[] size : sizes) {
            defineOrderDue(check, size[0], size[1], size[2], false);
            defineOrderDue(check, size[0], size[1], size[2], true);
            otherOrdersDue(check, size[0], size[1], size[2]);
        }
    }

    private static boolean isOutside(int n, int bound) {
        return n < 0 || n >= bound;
    }

    /** All calls of define to which two conditions or more apply, from numbers at the edges. */
    private static void defineOrderDue(Check check, int cells, int length, int alphabet, boolean open) {
        DerivativeParser x = new DerivativeParser(cells, length, alphabet);
        if (open) {
            x.open(0);
        }
        int[] numbers = {LOW, -1, 0, alphabet - 1, alphabet, cells - 1, cells, HIGH};
        for (int cell : numbers) {
            for (int kind : new int[] {LOW, -1, 0, 1, 2, 3, 4, 5, HIGH}) {
                for (int left : numbers) {
                    for (int right : numbers) {
                        boolean sides = kind == ALT || kind == SEQ;
                        boolean[] applies = {open, isOutside(cell, cells), isOutside(kind, 5),
                            kind == TOKEN && isOutside(left, alphabet), sides && isOutside(left, cells),
                            sides && isOutside(right, cells)};
                        String call = "define(" + cell + ", " + kind + ", " + left + ", " + right + ")";
                        orderDue(check, call, applies, x.define(cell, kind, left, right));
                    }
                }
            }
        }
    }

    private static void orderDue(Check check, String call, boolean[] applies, int got) {
        int[] answers = {OPENED, BAD_CELL, BAD_KIND, BAD_TOKEN, BAD_LEFT, BAD_RIGHT};
        int count = 0;
        int first = 0;
        for (int i = applies.length - 1; i >= 0; i--) {
            if (applies[i]) {
                count++;
                first = answers[i];
            }
        }
        if (count > 1) {
            check.due(call, got, first);
        }
    }

    private static void otherOrdersDue(Check check, int cells, int length, int alphabet) {
        DerivativeParser x = new DerivativeParser(cells, length, alphabet);
        for (int n : outside(16)) {
            check.due("feed(" + n + ") while closed", x.feed(n), CLOSED);
            check.due("keep(" + n + ") while closed", x.keep(n), CLOSED);
            check.due("tokenAt(" + n + ") while closed", x.tokenAt(n), CLOSED);
            check.due("ahead(" + n + ") while closed", x.ahead(n), CLOSED);
        }
        x.open(0);
        fed(x, times(length, 1));
        for (int n : outside(16)) {
            check.due("open(" + n + ") while open", x.open(n), OPENED);
            check.due("feed(" + n + ") while full", x.feed(n), BAD_TOKEN);
        }
        check.due("the last bad token while full", x.feed(alphabet), BAD_TOKEN);
        check.due("the last bad cell while open", x.open(cells), OPENED);
    }

    private static void argumentsMayBeAnyInt(Check check) {
        for (int n : anyNumbers()) {
            anyConstructorDue(check, n);
            anyCellDue(check, n, new DerivativeParser(6, 5, 3));
            anyCellDue(check, n, new DerivativeParser(16, 12, 8));
            anyTokenDue(check, n);
            anyPlaceDue(check, n);
            for (int other : anyNumbers()) {
                anySidesDue(check, n, other);
            }
        }
    }

    private static int inside(int n, int least, int most) {
        return n < least ? least : n > most ? most : n;
    }

    private static void anyConstructorDue(Check check, int n) {
        int cells = inside(n, LEAST_C, MOST_C);
        int length = inside(n, LEAST_M, MOST_M);
        int alphabet = inside(n, LEAST_A, MOST_A);
        Bounds.due(check, new DerivativeParser(n, n, n), cells, length, alphabet);
    }

    private static void anyCellDue(Check check, int n, DerivativeParser x) {
        int cells = x.kind(6) == BAD_CELL ? 6 : 16;
        boolean bad = isOutside(n, cells);
        check.due("kind(" + n + ")", x.kind(n), bad ? BAD_CELL : EMPTY);
        check.due("left(" + n + ")", x.left(n), bad ? BAD_CELL : 0);
        check.due("right(" + n + ")", x.right(n), bad ? BAD_CELL : 0);
        check.due("least(" + n + ")", x.least(n), bad ? BAD_CELL : NONE);
        check.due("define(" + n + ", ..)", x.define(n, EPSILON, n, n), bad ? BAD_CELL : OK);
        check.due("define(0, " + n + ", ..)", x.define(0, n, 0, 0), isOutside(n, 5) ? BAD_KIND : OK);
        x.define(0, EMPTY, 0, 0);
        check.due("open(" + n + ")", x.open(n), bad ? BAD_CELL : n == 0 ? DEAD : ACCEPTED);
    }

    private static void anyTokenDue(Check check, int n) {
        DerivativeParser x = new DerivativeParser(4, 4, 3);
        boolean bad = isOutside(n, 3);
        check.due("define(0, TOKEN, " + n + ", ..)", x.define(0, TOKEN, n, n), bad ? BAD_TOKEN : OK);
        x.define(0, TOKEN, 2, n);
        x.open(0);
        check.due("ahead(" + n + ")", x.ahead(n), bad ? BAD_TOKEN : n == 2 ? 0 : NONE);
        check.due("feed(" + n + ")", x.feed(n), bad ? BAD_TOKEN : n == 2 ? ACCEPTED : DEAD);
    }

    private static void anyPlaceDue(Check check, int n) {
        DerivativeParser x = opened(nested(12), 0, 0, 0, 1);
        check.due("tokenAt(" + n + ")", x.tokenAt(n), isOutside(n, 3) ? BAD_PLACE : n == 2 ? 1 : 0);
        check.due("keep(" + n + ")", x.keep(n), isOutside(n, 4) ? BAD_PLACE : PARTIAL);
    }

    private static void anySidesDue(Check check, int left, int right) {
        DerivativeParser x = new DerivativeParser(6, 4, 2);
        int due = isOutside(left, 6) ? BAD_LEFT : isOutside(right, 6) ? BAD_RIGHT : OK;
        String sides = left + ", " + right + ")";
        check.due("define(5, ALT, " + sides, x.define(5, ALT, left, right), due);
        check.due("define(5, SEQ, " + sides, x.define(5, SEQ, left, right), due);
        check.due("define(5, EMPTY, " + sides, x.define(5, EMPTY, left, right), OK);
        check.due("define(5, EPSILON, " + sides, x.define(5, EPSILON, left, right), OK);
    }

    private static void lengthsAreExact(Check check) {
        powersDue(check);
        sumsDue(check);
        owedDue(check);
        leftRecursionDue(check);
    }

    /** Both orders of the cells, as their order must play no part. */
    private static void powersDue(Check check) {
        DerivativeParser down = doubling(16, 12);
        DerivativeParser up = new DerivativeParser(16, 12, 2);
        up.define(0, TOKEN, 0, 0);
        for (int cell = 1; cell < 16; cell++) {
            up.define(cell, SEQ, cell - 1, cell - 1);
        }
        for (int cell = 0; cell < 16; cell++) {
            check.due("least down of cell " + cell, down.least(cell), 1 << 15 - cell);
            check.due("least up of cell " + cell, up.least(cell), 1 << cell);
        }
        down.open(0);
        up.open(15);
        for (int n = 0; n <= 12; n++) {
            check.due("shortest down behind " + n, down.shortest(), 32768 - n);
            check.due("shortest up behind " + n, up.shortest(), 32768 - n);
            check.due("ahead down behind " + n, down.ahead(0), 32767 - n);
            check.due("ahead up behind " + n, up.ahead(0), 32767 - n);
            down.feed(0);
            up.feed(0);
        }
    }

    /** Each cell is the two next ones, so that the lengths are sums of unlike numbers. */
    private static void sumsDue(Check check) {
        DerivativeParser x = new DerivativeParser(16, 12, 2);
        int[] lengths = new int[16];
        for (int cell = 15; cell >= 0; cell--) {
            if (cell > 13) {
                x.define(cell, TOKEN, cell - 14, 0);
                lengths[cell] = 1;
            } else {
                x.define(cell, SEQ, cell + 1, cell + 2);
                lengths[cell] = lengths[cell + 1] + lengths[cell + 2];
            }
            check.due("least of cell " + cell, x.least(cell), lengths[cell]);
        }
        check.due("the greatest sum", x.least(0), 987);
        x.open(0);
        check.due("shortest", x.shortest(), 987);
        check.due("ahead", x.ahead(x.ahead(0) < 0 ? 1 : 0), 986);
    }

    private static void owedDue(Check check) {
        DerivativeParser x = owing();
        check.due("least", x.least(0), 1);
        check.due("least of a unit", x.least(14), 2);
        check.due("least of 4096 units", x.least(2), 8192);
        x.open(0);
        for (int n = 1; n <= 12; n++) {
            check.due("ahead to " + n + " zeros", x.ahead(0), 8190 * n + 1);
            check.due("ahead to a 1 behind " + (n - 1), x.ahead(1), n == 1 ? 0 : 8190 * (n - 1));
            x.feed(0);
            check.due("shortest behind " + n + " zeros", x.shortest(), 8190 * n + 1);
        }
        check.due("ahead past M", x.ahead(0), 8190 * 13 + 1);
        check.due("ahead to a 1 past M", x.ahead(1), 8190 * 12);
        x.keep(11);
        check.due("a 1 behind 11", x.feed(1), PARTIAL);
        check.due("shortest behind it", x.shortest(), 8190 * 11);
        check.due("ahead to another 1", x.ahead(1), NONE);
        check.due("ahead to a 0 behind it", x.ahead(0), 8190 * 11 - 1);
    }

    /** The words are a 0 and then any number of times 4096 tokens 1, by cell 0 on its own left. */
    private static void leftRecursionDue(Check check) {
        DerivativeParser x = new DerivativeParser(16, 12, 2);
        x.define(0, ALT, 2, 1);
        x.define(1, SEQ, 0, 3);
        x.define(2, TOKEN, 0, 0);
        for (int cell = 3; cell < 15; cell++) {
            x.define(cell, SEQ, cell + 1, cell + 1);
        }
        x.define(15, TOKEN, 1, 0);
        check.due("least of the longer side", x.least(1), 4097);
        opened(x, 0, 0);
        for (int n = 0; n < 12; n++) {
            check.due("shortest behind " + n + " ones", x.shortest(), n == 0 ? 0 : 4096 - n);
            check.due("ahead to a 1 behind " + n + " ones", x.ahead(1), 4095 - n);
            check.due("ahead to a 0 behind " + n + " ones", x.ahead(0), NONE);
            x.feed(1);
        }
    }
}

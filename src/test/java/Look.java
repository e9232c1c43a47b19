import java.util.ArrayList;
import java.util.List;
import java.util.function.Consumer;
import java.util.function.Function;
import java.util.function.Supplier;

/** Tells whether two objects are alike: in what they answer now, and in what they answer later. */
final class Look {
    private static final int CELLS = 16;
    private static final int LENGTH = 12;
    private static final int ALPHABET = 8;

    private Look() {
    }

    /** The call leaves an object of this state as it was. */
    static void nothingChanges(Check check, String what, Supplier<DerivativeParser> state,
            Consumer<DerivativeParser> call) {
        alike(check, what, () -> {
            DerivativeParser x = state.get();
            call.accept(x);
            return x;
        }, state);
    }

    /** Each way to go on starts from new objects, as a look could mend what a call left behind. */
    static void alike(Check check, String what, Supplier<DerivativeParser> got,
            Supplier<DerivativeParser> want) {
        List<Function<DerivativeParser, String>> ways = ways();
        for (int way = 0; way < ways.size(); way++) {
            String answers = ways.get(way).apply(got.get());
            check.same(what + ", way " + way, answers, ways.get(way).apply(want.get()));
        }
    }

    private static List<Function<DerivativeParser, String>> ways() {
        List<Function<DerivativeParser, String>> ways = new ArrayList<>();
        ways.add(Look::all);
        ways.add(x -> feeding(x, 0, 0));
        ways.add(x -> feeding(x, 1, 1));
        ways.add(x -> feeding(x, 0, 1));
        ways.add(x -> feeding(x, 1, 2));
        ways.add(Look::cutting);
        ways.add(Look::reopening);
        ways.add(Look::redefining);
        return ways;
    }

    /** Every question with every argument that can matter. */
    static String all(DerivativeParser x) {
        return cells(x) + input(x);
    }

    static String cells(DerivativeParser x) {
        StringBuilder seen = new StringBuilder(" cells");
        for (int cell = -1; cell <= CELLS; cell++) {
            seen.append(' ').append(x.kind(cell)).append(',').append(x.left(cell));
            seen.append(',').append(x.right(cell)).append(',').append(x.least(cell));
        }
        return seen.toString();
    }

    static String input(DerivativeParser x) {
        StringBuilder seen = new StringBuilder(" input");
        seen.append(' ').append(x.root()).append(' ').append(x.size()).append(" tokens");
        for (int place = -1; place <= LENGTH; place++) {
            seen.append(' ').append(x.tokenAt(place));
        }
        seen.append(" verdict ").append(x.verdict()).append(' ').append(x.shortest());
        seen.append(' ').append(x.longest()).append(" ahead");
        for (int token = -1; token <= ALPHABET; token++) {
            seen.append(' ').append(x.ahead(token));
        }
        return seen.toString();
    }

    private static String feeding(DerivativeParser x, int even, int odd) {
        StringBuilder seen = new StringBuilder(" feeding");
        for (int n = 0; n <= LENGTH; n++) {
            seen.append(' ').append(x.feed(n % 2 == 0 ? even : odd));
        }
        return seen + all(x);
    }

    private static String cutting(DerivativeParser x) {
        StringBuilder seen = new StringBuilder(" cutting");
        for (int n = LENGTH + 1; n >= -1; n--) {
            seen.append(' ').append(x.keep(n)).append(' ').append(x.longest());
        }
        return seen + all(x);
    }

    private static String reopening(DerivativeParser x) {
        StringBuilder seen = new StringBuilder(" reopening");
        for (int cell = 0; cell < CELLS; cell++) {
            seen.append(' ').append(x.close()).append(' ').append(x.open(cell));
            seen.append(' ').append(x.feed(0)).append(' ').append(x.feed(1)).append(' ').append(x.longest());
        }
        return seen + all(x);
    }

    private static String redefining(DerivativeParser x) {
        StringBuilder seen = new StringBuilder(" redefining");
        seen.append(' ').append(x.define(0, 3, 1, 2)).append(' ').append(x.close());
        seen.append(' ').append(x.define(3, 1, 0, 0)).append(' ').append(x.define(1, 2, 1, 0));
        return seen + cells(x) + feeding(x, 1, 0) + x.open(0) + feeding(x, 1, 0);
    }
}

import java.util.Arrays;

/** The sentences of the promises 7 to 13: opening and closing, and the input. */
public final class InputTest extends Samples {
    public static void main(String[] args) {
        Sentences all = new Sentences();
        list(all);
        all.run("InputTest");
    }

    static void list(Sentences all) {
        all.section("Promise 7");
        all.test("If open: OPENED.", InputTest::openWhileOpen);
        all.test("If cell is not in 0 .. C-1: BAD_CELL.", InputTest::openBadCell);
        all.test("Otherwise the object becomes open, with this cell as root and an input of length 0.",
                InputTest::openGivesRootAndInput);
        all.test("This happens whatever the kind and language of the cell, also when the verdict is DEAD.",
                InputTest::openWhateverTheCell);
        all.test("The answer is the verdict on the empty word.", InputTest::openAnswersVerdict);
        all.test("No cell changes.", InputTest::openChangesNoCell);

        all.section("Promise 8");
        all.test("close() answers CLOSED if closed.", InputTest::closeWhileClosed);
        all.test("Otherwise the object becomes closed, root and input are dropped, and all cells stay as they are.",
                InputTest::closeDropsRootAndInput);
        all.test("The answer is then OK.", InputTest::closeAnswersOk);
        all.test("The object can afterwards be opened again, with the same or another root.", InputTest::openedAgain);

        all.section("Promise 9");
        all.test("root() answers CLOSED if closed, else the root's cell number.", InputTest::rootIsTheCell);
        all.test("It changes nothing.", check -> asksOnly(check, "root", DerivativeParser::root));

        all.section("Promise 10");
        all.test("If closed: CLOSED.", InputTest::feedWhileClosed);
        all.test("If token is not in 0 .. A-1: BAD_TOKEN.", InputTest::feedBadToken);
        all.test("If the input has length M: FULL.", InputTest::feedFullInput);
        all.test("Otherwise the token is put at the end of the input, also when the verdict is DEAD before or after.",
                InputTest::feedPutsAtTheEnd);
        all.test("The answer is the verdict on the new input.", InputTest::feedAnswersVerdict);
        all.test("The earlier tokens of the input, the root and all cells do not change.", InputTest::feedChangesNoOther);
        all.test("A bad token fed to a full input is answered BAD_TOKEN.", InputTest::feedBadTokenToFullInput);

        all.section("Promise 11");
        all.test("If closed: CLOSED.", InputTest::keepWhileClosed);
        all.test("If n is below 0 or above the input's length: BAD_PLACE.", InputTest::keepBadPlace);
        all.test("Otherwise the input is cut to its first n tokens.", InputTest::keepCuts);
        all.test("With n equal to its length the input is left as it is; with n equal to 0 it becomes the empty word.",
                InputTest::keepAllOrNothing);
        all.test("The answer is the verdict on the new input.", InputTest::keepAnswersVerdict);
        all.test("The tokens kept, the root and all cells do not change, and the object stays open.",
                InputTest::keepChangesNoOther);

        all.section("Promise 12");
        all.test("size() answers CLOSED if closed, else the input's length, 0 .. M.", InputTest::sizeIsTheLength);
        all.test("It changes nothing.", check -> asksOnly(check, "size", DerivativeParser::size));

        all.section("Promise 13");
        all.test("If closed: CLOSED.", InputTest::tokenAtWhileClosed);
        all.test("If place is below 0, or not below the input's length: BAD_PLACE.", InputTest::tokenAtBadPlace);
        all.test("Otherwise it answers the token at that place of the input, place 0 being the first token.",
                InputTest::tokenAtPlace);
        all.test("With an input of length 0 every place is answered BAD_PLACE.", InputTest::tokenAtOfNoInput);
        all.test("It changes nothing.", check -> asksOnly(check, "tokenAt", InputTest::askAllPlaces));
    }

    private static void askAllPlaces(DerivativeParser x) {
        for (int n : anyNumbers()) {
            x.tokenAt(n);
        }
    }

    private static void openWhileOpen(Check check) {
        openStates().forEach((name, state) -> {
            DerivativeParser x = state.get();
            String before = Look.all(x);
            for (int n : anyNumbers()) {
                check.due("open(" + n + "), " + name, x.open(n), OPENED);
            }
            check.same("all answers behind it, " + name, Look.all(x), before);
        });
    }

    private static void openBadCell(Check check) {
        for (int cells = LEAST_C; cells <= MOST_C; cells++) {
            DerivativeParser x = new DerivativeParser(cells, 4, 2);
            for (int bad : outside(cells)) {
                check.due("open(" + bad + ") of " + cells, x.open(bad), BAD_CELL);
                check.due("root behind it", x.root(), CLOSED);
            }
            check.due("the last of " + cells, x.open(cells - 1), DEAD);
            x.close();
            check.due("the first of " + cells, x.open(0), DEAD);
        }
    }

    private static void openGivesRootAndInput(Check check) {
        for (int cells = LEAST_C; cells <= MOST_C; cells++) {
            DerivativeParser x = new DerivativeParser(cells, 4, 2);
            for (int root = 0; root < cells; root++) {
                x.open(root);
                check.due("root", x.root(), root);
                check.due("size", x.size(), 0);
                check.due("tokenAt(0)", x.tokenAt(0), BAD_PLACE);
                check.due("keep(1)", x.keep(1), BAD_PLACE);
                check.due("define", x.define(0, EMPTY, 0, 0), OPENED);
                fed(x, 0, 1, 1);
                x.close();
            }
        }
    }

    /** One cell of each kind without words and with words. */
    private static DerivativeParser ofManyKinds() {
        DerivativeParser x = new DerivativeParser(9, 4, 2);
        x.define(1, EPSILON, 0, 0);
        x.define(2, TOKEN, 0, 0);
        x.define(3, ALT, 3, 3);
        x.define(4, SEQ, 4, 1);
        x.define(5, ALT, 0, 2);
        x.define(6, SEQ, 2, 2);
        x.define(7, ALT, 2, 1);
        x.define(8, SEQ, 2, 0);
        return x;
    }

    private static final int[] VERDICTS_OF_MANY_KINDS =
        {DEAD, ACCEPTED, PARTIAL, DEAD, DEAD, PARTIAL, PARTIAL, ACCEPTED, DEAD};

    private static void openWhateverTheCell(Check check) {
        for (int root = 0; root < 9; root++) {
            DerivativeParser x = ofManyKinds();
            check.holds("opening cell " + root, x.open(root) > 0);
            check.due("root " + root, x.root(), root);
            check.due("size with root " + root, x.size(), 0);
            check.holds("feeding root " + root, x.feed(1) > 0);
            check.due("size behind it", x.size(), 1);
            check.due("close", x.close(), OK);
        }
    }

    private static void openAnswersVerdict(Check check) {
        DerivativeParser x = ofManyKinds();
        for (int root = 0; root < 9; root++) {
            check.due("open(" + root + ")", x.open(root), VERDICTS_OF_MANY_KINDS[root]);
            check.due("verdict behind it", x.verdict(), VERDICTS_OF_MANY_KINDS[root]);
            fed(x, 0, 0).close();
        }
        check.due("a word longer than M", doubling(6, 4).open(0), PARTIAL);
    }

    private static void openChangesNoCell(Check check) {
        DerivativeParser x = ofManyKinds();
        String before = Look.cells(x);
        for (int root = 0; root < 9; root++) {
            x.open(root);
            check.same("cells with root " + root, Look.cells(x), before);
            x.close();
            check.same("cells behind root " + root, Look.cells(x), before);
        }
    }

    private static void closeWhileClosed(Check check) {
        closedStates().forEach((name, state) -> {
            DerivativeParser x = state.get();
            check.due("close, " + name, x.close(), CLOSED);
            check.due("close again, " + name, x.close(), CLOSED);
        });
    }

    private static void closeDropsRootAndInput(Check check) {
        openStates().forEach((name, state) -> {
            DerivativeParser x = state.get();
            String before = Look.cells(x);
            x.close();
            check.due("root, " + name, x.root(), CLOSED);
            check.due("size, " + name, x.size(), CLOSED);
            check.due("tokenAt(0), " + name, x.tokenAt(0), CLOSED);
            check.due("verdict, " + name, x.verdict(), CLOSED);
            check.due("longest, " + name, x.longest(), CLOSED);
            check.same("cells, " + name, Look.cells(x), before);
            x.open(3);
            check.due("root opened behind it, " + name, x.root(), 3);
            check.due("size opened behind it, " + name, x.size(), 0);
            check.due("keep(1) behind it, " + name, x.keep(1), BAD_PLACE);
        });
    }

    private static void closeAnswersOk(Check check) {
        openStates().forEach((name, state) -> {
            DerivativeParser x = state.get();
            check.due("close, " + name, x.close(), OK);
            x.open(1);
            check.due("close once more, " + name, x.close(), OK);
        });
    }

    /** An object opened again is like one that was never opened before. */
    private static void openedAgain(Check check) {
        for (int root = 0; root < 8; root++) {
            int again = root;
            Look.alike(check, "root 0 and then " + root,
                    () -> opened(closed(opened(nested(4), 0, 0, 0, 1, 1)), again), () -> opened(nested(4), again));
            Look.alike(check, "root " + root + " and then 0",
                    () -> opened(closed(opened(nested(4), again, 1, 2, 0)), 0), () -> opened(nested(4), 0));
        }
        Look.alike(check, "the same root many times", InputTest::openedManyTimes, () -> opened(pairs(5), 0));
    }

    private static DerivativeParser openedManyTimes() {
        DerivativeParser x = pairs(5);
        for (int n = 0; n < 1000; n++) {
            opened(x, 0, 0, n % 3, n % 2).close();
        }
        return opened(x, 0);
    }

    private static void rootIsTheCell(Check check) {
        closedStates().forEach((name, state) -> check.due("root, " + name, state.get().root(), CLOSED));
        for (int root = 0; root < 16; root++) {
            DerivativeParser x = new DerivativeParser(16, 4, 2);
            x.open(root);
            check.due("root opened", x.root(), root);
            fed(x, 0, 1, 0, 1, 0);
            check.due("root of a full input", x.root(), root);
            x.keep(2);
            x.open(3);
            x.ahead(1);
            check.due("root behind other calls", x.root(), root);
            x.close();
            check.due("root closed", x.root(), CLOSED);
        }
    }

    private static void feedWhileClosed(Check check) {
        closedStates().forEach((name, state) -> {
            DerivativeParser x = state.get();
            for (int n : anyNumbers()) {
                check.due("feed(" + n + "), " + name, x.feed(n), CLOSED);
            }
            x.open(0);
            check.due("size once opened, " + name, x.size(), 0);
        });
    }

    private static void feedBadToken(Check check) {
        for (int alphabet = LEAST_A; alphabet <= MOST_A; alphabet++) {
            DerivativeParser x = opened(new DerivativeParser(16, 4, alphabet), 0);
            for (int n = 0; n < 4; n++) {
                for (int bad : outside(alphabet)) {
                    check.due("feed(" + bad + ") of " + alphabet, x.feed(bad), BAD_TOKEN);
                }
                check.due("size behind it", x.size(), n);
                check.due("a good token", x.feed(alphabet - 1), DEAD);
            }
        }
    }

    private static void feedFullInput(Check check) {
        for (int length = LEAST_M; length <= MOST_M; length++) {
            DerivativeParser x = opened(pairs(length), 0);
            for (int n = 0; n < length; n++) {
                check.due("feed " + n + " of " + length, x.feed(n % 2), n % 2 == 0 ? PARTIAL : ACCEPTED);
            }
            for (int token = 0; token < 3; token++) {
                check.due("feed past " + length, x.feed(token), FULL);
            }
            check.due("size", x.size(), length);
            check.due("the last token", x.tokenAt(length - 1), (length - 1) % 2);
            x.keep(length - 1);
            check.due("feed where one was cut", x.feed(2), DEAD);
            check.due("feed past it", x.feed(0), FULL);
        }
    }

    private static void feedPutsAtTheEnd(Check check) {
        int[] tokens = {0, 1, 1, 2, 0, 1};
        for (int root : new int[] {0, 3, 7}) {
            DerivativeParser x = opened(nested(6), root);
            for (int n = 0; n < tokens.length; n++) {
                x.feed(tokens[n]);
                check.due("size behind feed " + n, x.size(), n + 1);
                check.due("token behind feed " + n, x.tokenAt(n), tokens[n]);
            }
            check.due("verdict", x.verdict(), DEAD);
        }
        DerivativeParser y = opened(nested(6), 0, 2, 2, 2);
        check.due("size of what is dead", y.size(), 3);
        check.due("cut to what lives", y.keep(0), PARTIAL);
        check.due("and on", fed(y, 0).feed(1), ACCEPTED);
    }

    private static void feedAnswersVerdict(Check check) {
        int[] tokens = {0, 0, 1, 1, 1, 0};
        int[] verdicts = {PARTIAL, PARTIAL, PARTIAL, ACCEPTED, DEAD, DEAD};
        DerivativeParser x = opened(nested(6), 0);
        for (int n = 0; n < tokens.length; n++) {
            check.due("feed " + n, x.feed(tokens[n]), verdicts[n]);
            check.due("verdict behind feed " + n, x.verdict(), verdicts[n]);
        }
        DerivativeParser y = opened(pairs(12), 0);
        for (int n = 0; n < 12; n++) {
            check.due("feed " + n + " of pairs", y.feed(n % 2), n % 2 == 0 ? PARTIAL : ACCEPTED);
        }
    }

    private static void tokensDue(Check check, String what, DerivativeParser x, int[] tokens, int size) {
        check.due("size " + what, x.size(), size);
        for (int place = 0; place < size; place++) {
            check.due("token " + place + " " + what, x.tokenAt(place), tokens[place]);
        }
    }

    private static void feedChangesNoOther(Check check) {
        int[] tokens = {0, 2, 1, 1, 0, 2, 2, 0, 1, 0, 0, 1};
        for (int root = 0; root < 8; root++) {
            DerivativeParser x = nested(12);
            String cells = Look.cells(x);
            x.open(root);
            for (int n = 0; n < tokens.length; n++) {
                x.feed(tokens[n]);
                tokensDue(check, "behind feed " + n, x, tokens, n + 1);
                check.due("root behind feed " + n, x.root(), root);
                check.same("cells behind feed " + n, Look.cells(x), cells);
            }
        }
    }

    private static void feedBadTokenToFullInput(Check check) {
        fullStates().forEach((name, state) -> {
            DerivativeParser x = state.get();
            check.due("a good token, " + name, x.feed(0), FULL);
            for (int bad : outside(8)) {
                check.due("feed(" + bad + "), " + name, x.feed(bad), BAD_TOKEN);
            }
        });
        for (int alphabet = LEAST_A; alphabet <= MOST_A; alphabet++) {
            DerivativeParser x = opened(new DerivativeParser(4, 4, alphabet), 0, 0, 0, 0, 0);
            check.due("the first bad token of " + alphabet, x.feed(alphabet), BAD_TOKEN);
            check.due("the last good token of " + alphabet, x.feed(alphabet - 1), FULL);
        }
    }

    private static void keepWhileClosed(Check check) {
        closedStates().forEach((name, state) -> {
            DerivativeParser x = state.get();
            for (int n : anyNumbers()) {
                check.due("keep(" + n + "), " + name, x.keep(n), CLOSED);
            }
        });
    }

    private static void keepBadPlace(Check check) {
        for (int length = LEAST_M; length <= MOST_M; length++) {
            DerivativeParser x = opened(nested(length), 0);
            for (int n = 0; n <= length; n++) {
                for (int bad : outside(n + 1)) {
                    check.due("keep(" + bad + ") of " + n, x.keep(bad), BAD_PLACE);
                }
                check.due("size behind it", x.size(), n);
                x.feed(1);
            }
            x.keep(2);
            for (int gone = 3; gone <= length; gone++) {
                check.due("keep(" + gone + ") once cut to 2", x.keep(gone), BAD_PLACE);
            }
        }
    }

    /** A cut object is like one that was never fed more. */
    private static void keepCuts(Check check) {
        int[] tokens = {0, 0, 1, 1, 2, 0};
        for (int size = 0; size <= tokens.length; size++) {
            for (int n = 0; n <= size; n++) {
                int[] all = Arrays.copyOf(tokens, size);
                int[] first = Arrays.copyOf(tokens, n);
                Look.alike(check, "cut from " + size + " to " + n,
                        () -> kept(opened(nested(6), 0, all), first.length), () -> opened(nested(6), 0, first));
            }
        }
        int[] zeros = times(12, 0);
        for (int n = 0; n <= 12; n++) {
            DerivativeParser x = kept(opened(owing(), 0, zeros), n);
            check.due("size cut to " + n, x.size(), n);
            check.due("shortest cut to " + n, x.shortest(), 8190 * n + 1);
            check.due("the place cut at", x.tokenAt(n), BAD_PLACE);
        }
    }

    private static void keepAllOrNothing(Check check) {
        openStates().forEach((name, state) -> {
            int size = state.get().size();
            check.due("keep all, " + name, state.get().keep(size), state.get().verdict());
            Look.nothingChanges(check, "keep all, " + name, state, x -> x.keep(size));
            DerivativeParser x = kept(state.get(), 0);
            check.due("size of nothing, " + name, x.size(), 0);
            check.due("token of nothing, " + name, x.tokenAt(0), BAD_PLACE);
            Look.alike(check, "keep nothing, " + name, () -> kept(state.get(), 0), () -> openedAnew(state.get()));
        });
    }

    private static DerivativeParser openedAnew(DerivativeParser x) {
        int root = x.root();
        return opened(closed(x), root);
    }

    private static void keepAnswersVerdict(Check check) {
        int[] verdicts = {PARTIAL, PARTIAL, PARTIAL, PARTIAL, ACCEPTED, DEAD, DEAD};
        for (int n = 6; n >= 0; n--) {
            DerivativeParser x = opened(nested(6), 0, 0, 0, 1, 1, 1, 0);
            check.due("keep(" + n + ")", x.keep(n), verdicts[n]);
            check.due("verdict behind it", x.verdict(), verdicts[n]);
        }
        DerivativeParser y = opened(nested(6), 0, 0, 0, 1, 1, 1, 0);
        for (int n = 6; n >= 0; n--) {
            check.due("keep(" + n + ") step by step", y.keep(n), verdicts[n]);
        }
        check.due("nothing of nothing", y.keep(0), PARTIAL);
        check.due("the empty word", opened(pairs(4), 0, 1).keep(0), ACCEPTED);
        check.due("nothing of a root without words", opened(nested(4), 7, 1).keep(0), DEAD);
    }

    private static void keepChangesNoOther(Check check) {
        int[] tokens = {0, 2, 1, 1, 0, 2, 2, 0, 1, 0, 0, 1};
        for (int root = 0; root < 8; root++) {
            DerivativeParser x = nested(12);
            String cells = Look.cells(x);
            opened(x, root, tokens);
            for (int n = 12; n >= 0; n--) {
                x.keep(n);
                tokensDue(check, "behind keep " + n, x, tokens, n);
                check.due("root behind keep " + n, x.root(), root);
                check.same("cells behind keep " + n, Look.cells(x), cells);
                check.due("open behind keep " + n, x.open(root), OPENED);
            }
        }
    }

    private static void sizeIsTheLength(Check check) {
        closedStates().forEach((name, state) -> check.due("size, " + name, state.get().size(), CLOSED));
        for (int length = LEAST_M; length <= MOST_M; length++) {
            DerivativeParser x = opened(nested(length), 0);
            for (int n = 0; n <= length; n++) {
                check.due("size of " + n, x.size(), n);
                x.ahead(0);
                x.feed(9);
                check.due("size behind a refused token", x.size(), n);
                x.feed(n % 3);
            }
            check.due("size behind a refused feed", x.size(), length);
            for (int n = length; n >= 0; n--) {
                x.keep(n);
                check.due("size cut to " + n, x.size(), n);
            }
        }
    }

    private static void tokenAtWhileClosed(Check check) {
        closedStates().forEach((name, state) -> {
            DerivativeParser x = state.get();
            for (int n : anyNumbers()) {
                check.due("tokenAt(" + n + "), " + name, x.tokenAt(n), CLOSED);
            }
        });
    }

    private static void tokenAtBadPlace(Check check) {
        for (int length = LEAST_M; length <= MOST_M; length++) {
            DerivativeParser x = opened(nested(length), 0);
            for (int n = 0; n <= length; n++) {
                for (int bad : outside(n)) {
                    check.due("tokenAt(" + bad + ") of " + n, x.tokenAt(bad), BAD_PLACE);
                }
                x.ahead(2);
                check.due("the place looked ahead at", x.tokenAt(n), BAD_PLACE);
                x.feed(1);
            }
            x.keep(2);
            for (int gone = 2; gone <= length; gone++) {
                check.due("tokenAt(" + gone + ") once cut to 2", x.tokenAt(gone), BAD_PLACE);
            }
        }
    }

    private static void tokenAtPlace(Check check) {
        DerivativeParser x = opened(new DerivativeParser(4, 12, 8), 0);
        int[] tokens = {7, 0, 3, 5, 1, 6, 2, 4, 7, 7, 0, 6};
        fed(x, tokens);
        check.due("the first token", x.tokenAt(0), 7);
        check.due("the last token", x.tokenAt(11), 6);
        tokensDue(check, "of all", x, tokens, 12);
        fed(kept(x, 1), 5);
        check.due("a token behind a cut", x.tokenAt(1), 5);
        check.due("the token before it", x.tokenAt(0), 7);
    }

    private static void tokenAtOfNoInput(Check check) {
        DerivativeParser x = opened(nested(12), 0);
        DerivativeParser y = kept(opened(nested(12), 0, 0, 0, 1, 1), 0);
        DerivativeParser z = opened(closed(opened(nested(12), 0, 0, 0, 1, 1)), 0);
        for (int n : anyNumbers()) {
            check.due("tokenAt(" + n + ") just opened", x.tokenAt(n), BAD_PLACE);
            check.due("tokenAt(" + n + ") once cut", y.tokenAt(n), BAD_PLACE);
            check.due("tokenAt(" + n + ") opened again", z.tokenAt(n), BAD_PLACE);
        }
    }
}

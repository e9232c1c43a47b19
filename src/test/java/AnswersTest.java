import java.util.function.Consumer;

/** The sentences of the promises 14 to 17: what is answered about the input. */
public final class AnswersTest extends Samples {
    public static void main(String[] args) {
        Sentences all = new Sentences();
        list(all);
        all.run("AnswersTest");
    }

    static void list(Sentences all) {
        all.section("Promise 14");
        all.test("verdict() answers CLOSED if closed, else the verdict on the input: ACCEPTED, PARTIAL or DEAD.",
                AnswersTest::verdictOnTheInput);
        all.test("It changes nothing.", check -> asksOnly(check, "verdict", DerivativeParser::verdict));
        all.test("Completing words of any length count, also when the input followed by the completing word is "
                + "longer than M.", AnswersTest::verdictOfLongWords);

        all.section("Promise 15");
        all.test("shortest() answers CLOSED if closed.", AnswersTest::shortestWhileClosed);
        all.test("Otherwise it answers the length of a shortest word that completes the input (0 if the verdict is "
                + "ACCEPTED), or NONE if the verdict is DEAD.", AnswersTest::shortestOfTheInput);
        all.test("The length is that of the completing word alone, without the input, and is not limited by M.",
                AnswersTest::shortestIsOfTheRestAlone);
        all.test("It changes nothing.", check -> asksOnly(check, "shortest", DerivativeParser::shortest));

        all.section("Promise 16");
        all.test("If closed: CLOSED.", AnswersTest::aheadWhileClosed);
        all.test("If token is not in 0 .. A-1: BAD_TOKEN.", AnswersTest::aheadOfBadToken);
        all.test("Otherwise it answers the length of a shortest word that completes the word made of the input "
                + "followed by this token, or NONE if no word does.", AnswersTest::aheadOfTheInput);
        all.test("The length counts neither the input nor this token.", AnswersTest::aheadIsOfTheRestAlone);
        all.test("The answer is 0 if the input followed by this token is itself a word of L(root).",
                AnswersTest::aheadOfAWord);
        all.test("The call is so answered also when the input has length M, though the token could not be fed then; "
                + "FULL is never answered.", AnswersTest::aheadOfFullInput);
        all.test("It changes nothing; in particular the token is not put into the input.", AnswersTest::aheadChangesNothing);

        all.section("Promise 17");
        all.test("longest() answers CLOSED if closed.", AnswersTest::longestWhileClosed);
        all.test("Otherwise it answers the greatest n, from 0 to the input's length, such that the first n tokens of "
                + "the input are a word of L(root), or NONE if there is no such n.", AnswersTest::longestOfTheInput);
        all.test("The answer is the input's length exactly when the verdict is ACCEPTED.",
                AnswersTest::longestOfAWord);
        all.test("It is 0 when the empty word is in L(root) and no longer beginning of the input is.",
                AnswersTest::longestIsTheEmptyWord);
        all.test("It can be 0 or more also when the verdict on the whole input is PARTIAL or DEAD.",
                AnswersTest::longestOfWhatIsNoWord);
        all.test("It changes nothing.", check -> asksOnly(check, "longest", DerivativeParser::longest));
    }

    private static void verdictOnTheInput(Check check) {
        closedStates().forEach((name, state) -> check.due("verdict, " + name, state.get().verdict(), CLOSED));
        DerivativeParser x = opened(nested(6), 0);
        check.due("verdict of nothing", x.verdict(), PARTIAL);
        check.due("verdict of 0", fed(x, 0).verdict(), PARTIAL);
        check.due("verdict of 01", fed(x, 1).verdict(), ACCEPTED);
        check.due("verdict of 010", fed(x, 0).verdict(), DEAD);
        x.feed(9);
        x.ahead(1);
        check.due("verdict behind other calls", x.verdict(), DEAD);
        check.due("verdict cut to 01", kept(x, 2).verdict(), ACCEPTED);
        x.ahead(0);
        check.due("verdict behind a look ahead", x.verdict(), ACCEPTED);
        check.due("verdict cut to 0", kept(x, 1).verdict(), PARTIAL);
        check.due("verdict of another root", opened(closed(x), 3, 0).verdict(), ACCEPTED);
        check.due("verdict of a root without words", opened(closed(x), 7).verdict(), DEAD);
        check.due("verdict of the empty word", opened(pairs(4), 0).verdict(), ACCEPTED);
    }

    private static void verdictOfLongWords(Check check) {
        for (int length = LEAST_M; length <= MOST_M; length++) {
            DerivativeParser x = opened(nested(length), 0);
            for (int n = 0; n < length; n++) {
                x.feed(0);
                check.due("verdict of " + (n + 1) + " zeros with M " + length, x.verdict(), PARTIAL);
            }
            DerivativeParser y = opened(doubling(16, length), 0);
            for (int n = 0; n <= length; n++) {
                check.due("verdict of " + n + " of 32768 with M " + length, y.verdict(), PARTIAL);
                y.feed(0);
            }
        }
        check.due("one token more than M", opened(doubling(4, 7), 0, times(7, 0)).verdict(), PARTIAL);
        check.due("just M", opened(doubling(4, 8), 0, times(8, 0)).verdict(), ACCEPTED);
    }

    private static void shortestWhileClosed(Check check) {
        closedStates().forEach((name, state) -> check.due("shortest, " + name, state.get().shortest(), CLOSED));
    }

    private static void shortestOfTheInput(Check check) {
        DerivativeParser x = opened(nested(8), 0);
        check.due("shortest of nothing", x.shortest(), 2);
        check.due("shortest of 0", fed(x, 0).shortest(), 1);
        check.due("shortest of 000", fed(x, 0, 0).shortest(), 3);
        check.due("shortest of 0001", fed(x, 1).shortest(), 2);
        check.due("shortest of 00011", fed(x, 1).shortest(), 1);
        check.due("shortest of 000111", fed(x, 1).shortest(), 0);
        check.due("shortest of 0001111", fed(x, 1).shortest(), NONE);
        check.due("shortest of 00011110", fed(x, 0).shortest(), NONE);
        check.due("shortest cut to 000111", kept(x, 6).shortest(), 0);
        check.due("shortest of the empty word", opened(pairs(4), 0).shortest(), 0);
        check.due("shortest of no word", opened(pairs(4), 7).shortest(), NONE);
        shortestOfTwoWaysDue(check);
    }

    /** The words are 00111 and 010 and 01: the shorter of two ways counts, on either side of an ALT. */
    private static void shortestOfTwoWaysDue(Check check) {
        for (int turn = 0; turn < 2; turn++) {
            DerivativeParser x = new DerivativeParser(10, 5, 2);
            x.define(0, TOKEN, 0, 0);
            x.define(1, TOKEN, 1, 0);
            x.define(2, SEQ, 1, 1);
            x.define(3, SEQ, 2, 1);
            x.define(4, SEQ, 0, 3);
            x.define(5, SEQ, 1, 0);
            x.define(6, ALT, turn == 0 ? 5 : 1, turn == 0 ? 1 : 5);
            x.define(7, ALT, turn == 0 ? 4 : 6, turn == 0 ? 6 : 4);
            x.define(8, SEQ, 0, 7);
            x.open(8);
            check.due("shortest of nothing", x.shortest(), 2);
            check.due("shortest of 0", fed(x, 0).shortest(), 1);
            check.due("shortest of 00", fed(x, 0).shortest(), 3);
            check.due("shortest of 01", fed(kept(x, 1), 1).shortest(), 0);
            check.due("shortest of 010", fed(x, 0).shortest(), 0);
        }
    }

    private static void shortestIsOfTheRestAlone(Check check) {
        for (int length = LEAST_M; length <= MOST_M; length++) {
            DerivativeParser x = opened(doubling(16, length), 0);
            DerivativeParser y = opened(nested(length), 0);
            for (int n = 1; n <= length; n++) {
                x.feed(0);
                y.feed(0);
                check.due("shortest of " + n + " of 32768", x.shortest(), 32768 - n);
                check.due("shortest of " + n + " zeros", y.shortest(), n);
            }
        }
        DerivativeParser z = opened(owing(), 0, times(12, 0));
        check.due("shortest of what owes most", z.shortest(), 12 * 8190 + 1);
    }

    private static void aheadWhileClosed(Check check) {
        closedStates().forEach((name, state) -> {
            DerivativeParser x = state.get();
            for (int n : anyNumbers()) {
                check.due("ahead(" + n + "), " + name, x.ahead(n), CLOSED);
            }
        });
    }

    private static void aheadOfBadToken(Check check) {
        for (int alphabet = LEAST_A; alphabet <= MOST_A; alphabet++) {
            DerivativeParser x = opened(new DerivativeParser(16, 4, alphabet), 0);
            for (int n = 0; n <= 4; n++) {
                for (int bad : outside(alphabet)) {
                    check.due("ahead(" + bad + ") of " + alphabet, x.ahead(bad), BAD_TOKEN);
                }
                check.due("the last good token of " + alphabet, x.ahead(alphabet - 1), NONE);
                x.feed(0);
            }
        }
    }

    private static void aheadOfTheInput(Check check) {
        DerivativeParser x = opened(nested(6), 0);
        int[][] due = {{1, NONE, NONE}, {2, 0, NONE}, {3, 1, NONE}, {NONE, 0, NONE}, {NONE, NONE, NONE}};
        int[] tokens = {0, 0, 1, 1, 2};
        for (int n = 0; n < due.length; n++) {
            for (int token = 0; token < 3; token++) {
                check.due("ahead(" + token + ") behind " + n, x.ahead(token), due[n][token]);
            }
            x.feed(tokens[n]);
        }
        check.due("ahead behind what is dead", x.ahead(1), NONE);
        openStates().forEach((name, state) -> {
            for (int token = 0; token < 2; token++) {
                DerivativeParser fed = state.get();
                if (fed.feed(token) > 0) {
                    check.due("ahead(" + token + "), " + name, state.get().ahead(token), fed.shortest());
                }
            }
        });
    }

    private static void aheadIsOfTheRestAlone(Check check) {
        for (int length = LEAST_M; length <= MOST_M; length++) {
            DerivativeParser x = opened(doubling(5, length), 0);
            for (int n = 0; n <= length; n++) {
                check.due("ahead behind " + n + " of 16", x.ahead(0), 15 - n);
                x.feed(0);
            }
        }
        DerivativeParser y = opened(nested(4), 3);
        check.due("ahead to the only token of a word", y.ahead(0), 0);
    }

    private static void aheadOfAWord(Check check) {
        DerivativeParser x = opened(pairs(6), 0, 0);
        check.due("ahead to 01, though more could come", x.ahead(1), 0);
        check.due("ahead to 0101", fed(x, 1, 0).ahead(1), 0);
        check.due("ahead to 01 once cut", kept(x, 1).ahead(1), 0);
        DerivativeParser y = opened(nested(4), 0, 0, 0, 1);
        check.due("ahead to 0011, behind which nothing can come", y.ahead(1), 0);
        DerivativeParser z = opened(doubling(4, 7), 0, times(7, 0));
        check.due("ahead to a word of M+1 tokens", z.ahead(0), 0);
        DerivativeParser w = opened(doubling(4, 8), 0, times(7, 0));
        check.due("ahead to a word of M tokens", w.ahead(0), 0);
    }

    private static void aheadOfFullInput(Check check) {
        for (int length = LEAST_M; length <= MOST_M; length++) {
            DerivativeParser x = opened(nested(length), 0, times(length, 0));
            check.due("a token is refused", x.feed(0), FULL);
            check.due("ahead to a 0", x.ahead(0), length + 1);
            check.due("ahead to a 1", x.ahead(1), length - 1);
            check.due("ahead to a 2", x.ahead(2), NONE);
            check.due("ahead to a bad token", x.ahead(3), BAD_TOKEN);
        }
        for (int length = LEAST_M; length < MOST_M; length++) {
            fullLikeLongerDue(check, length);
        }
        DerivativeParser y = opened(owing(), 0, times(12, 0));
        check.due("ahead of the greatest to a 0", y.ahead(0), 8190 * 13 + 1);
        check.due("ahead of the greatest to a 1", y.ahead(1), 8190 * 12);
        check.due("ahead of the greatest to a bad token", y.ahead(2), BAD_TOKEN);
    }

    /** With a greater M the token can be fed, and shortest() then tells what ahead() had to. */
    private static void fullLikeLongerDue(Check check, int length) {
        for (int inputs = 0; inputs < 1 << length; inputs++) {
            DerivativeParser full = opened(pairs(length), 0);
            DerivativeParser longer = opened(pairs(length + 1), 0);
            for (int n = 0; n < length; n++) {
                full.feed(inputs >> n & 1);
                longer.feed(inputs >> n & 1);
            }
            for (int token = 0; token < 3; token++) {
                longer.feed(token);
                check.due("ahead(" + token + ") of a full input", full.ahead(token), longer.shortest());
                longer.keep(length);
            }
        }
    }

    private static void aheadChangesNothing(Check check) {
        asksOnly(check, "ahead", x -> {
            for (int n : anyNumbers()) {
                x.ahead(n);
            }
        });
        openStates().forEach((name, state) -> {
            DerivativeParser x = state.get();
            int size = x.size();
            x.ahead(0);
            check.due("size, " + name, x.size(), size);
            check.due("the place behind the input, " + name, x.tokenAt(size), BAD_PLACE);
            check.due("keeping one more, " + name, x.keep(size + 1), BAD_PLACE);
            Look.nothingChanges(check, "one token ahead, " + name, state, y -> y.ahead(1));
        });
    }

    private static void longestWhileClosed(Check check) {
        closedStates().forEach((name, state) -> check.due("longest, " + name, state.get().longest(), CLOSED));
    }

    private static void longestOfTheInput(Check check) {
        DerivativeParser x = opened(nested(6), 0);
        check.due("longest of nothing", x.longest(), NONE);
        check.due("longest of 0", fed(x, 0).longest(), NONE);
        check.due("longest of 01", fed(x, 1).longest(), 2);
        check.due("longest of 01111", fed(x, 1, 1, 1).longest(), 2);
        check.due("longest cut to 01", kept(x, 2).longest(), 2);
        check.due("longest cut to 0", kept(x, 1).longest(), NONE);
        check.due("longest of 0011", fed(x, 0, 1, 1).longest(), 4);
        check.due("longest of no word", opened(nested(4), 7, 0, 1).longest(), NONE);
        for (int length : new int[] {LEAST_M, 7}) {
            everyInput(length, input -> longestByCutting(check, input));
        }
        DerivativeParser y = opened(pairs(12), 0);
        for (int n = 1; n <= 12; n++) {
            check.due("longest of " + n + " of pairs", fed(y, (n + 1) % 2).longest(), n / 2 * 2);
        }
    }

    /** All inputs of this length over the tokens 0 and 1, with two grammars. */
    private static void everyInput(int length, Consumer<DerivativeParser> due) {
        for (int inputs = 0; inputs < 1 << length; inputs++) {
            DerivativeParser first = opened(nested(length), 0);
            DerivativeParser second = opened(pairs(length), 0);
            for (int n = 0; n < length; n++) {
                first.feed(inputs >> n & 1);
                second.feed(inputs >> n & 1);
            }
            due.accept(first);
            due.accept(second);
        }
    }

    private static void longestByCutting(Check check, DerivativeParser x) {
        int got = x.longest();
        int n = x.size();
        while (n >= 0 && x.keep(n) != ACCEPTED) {
            n--;
        }
        check.due("longest", got, n < 0 ? NONE : n);
    }

    private static void longestOfAWord(Check check) {
        everyInput(6, input -> {
            boolean accepted = input.verdict() == ACCEPTED;
            check.holds("longest is the length", (input.longest() == input.size()) == accepted);
        });
        openStates().forEach((name, state) -> {
            DerivativeParser x = state.get();
            check.holds("longest, " + name, (x.longest() == x.size()) == (x.verdict() == ACCEPTED));
        });
        check.due("longest of the empty word", opened(pairs(4), 0).longest(), 0);
        DerivativeParser full = opened(pairs(4), 0, 0, 1, 0, 1);
        check.due("longest of a full input", full.longest(), 4);
        check.due("longest cut to a shorter word", kept(full, 2).longest(), 2);
        check.due("longest cut to the empty word", kept(full, 0).longest(), 0);
    }

    private static void longestIsTheEmptyWord(Check check) {
        DerivativeParser x = opened(pairs(5), 0);
        check.due("longest of nothing", x.longest(), 0);
        check.due("longest of 0, which is partial", fed(x, 0).longest(), 0);
        check.due("longest of 00, which is dead", fed(x, 0).longest(), 0);
        check.due("longest of 00111, which is full", fed(x, 1, 1, 1).longest(), 0);
        check.due("longest cut to nothing", kept(x, 0).longest(), 0);
        check.due("longest of 1", fed(x, 1).longest(), 0);
        check.due("longest of the empty word's cell", opened(pairs(5), 1, 0, 1).longest(), 0);
        check.due("longest without the empty word", opened(pairs(5), 2, 0).longest(), NONE);
    }

    private static void longestOfWhatIsNoWord(Check check) {
        DerivativeParser x = opened(pairs(8), 0, 0, 1, 0, 1, 0);
        check.due("verdict of 01010", x.verdict(), PARTIAL);
        check.due("longest of 01010", x.longest(), 4);
        check.due("verdict of 010100", fed(x, 0).verdict(), DEAD);
        check.due("longest of 010100", x.longest(), 4);
        check.due("verdict of 01010010", fed(x, 1, 0).verdict(), DEAD);
        check.due("longest of 01010010", x.longest(), 4);
        check.due("longest cut to 010", kept(x, 3).longest(), 2);
        check.due("longest cut to 0", kept(x, 1).longest(), 0);
    }
}

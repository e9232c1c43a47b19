/** The sentences of the document's "Terms" about the state, the languages and the verdicts. */
public final class TermsTest extends Samples {
    public static void main(String[] args) {
        Sentences all = new Sentences();
        list(all);
        all.run("TermsTest");
    }

    static void list(Sentences all) {
        all.section("State");
        all.test("There are C cells, numbered 0 .. C-1.", TermsTest::cellsAreNumbered);
        all.test("Each has a kind, a left number and a right number.", TermsTest::cellsHaveThreeParts);
        all.test("Tokens are the numbers 0 .. A-1.", TermsTest::tokensAreNumbered);
        all.test("The object is either closed or open.", TermsTest::closedOrOpen);
        all.test("While open it also has a root (a cell number) and an input: a list of 0 .. M tokens, "
                + "with places numbered from 0, in the order they were fed.", TermsTest::openHasRootAndInput);
        all.test("While closed there is no root and no input.", TermsTest::closedHasNoRootAndInput);
        all.test("Cells can be changed only while closed.", TermsTest::cellsChangeOnlyWhileClosed);
        all.test("C, M and A are fixed by the constructor (Promise 1).", TermsTest::eachObjectHasItsOwnNumbers);

        all.section("Languages");
        all.test("A word is a finite list of tokens, perhaps of length 0 (the empty word).",
                TermsTest::theEmptyWordIsAWord);
        all.test("EMPTY: L(c) has no word.", TermsTest::emptyHasNoWord);
        all.test("EPSILON: L(c) has exactly the empty word.", TermsTest::epsilonHasTheEmptyWord);
        all.test("TOKEN: L(c) has exactly the word of length 1 whose only token is left(c).",
                TermsTest::tokenHasOneWord);
        all.test("ALT: L(c) has the words of L(left(c)) and the words of L(right(c)).", TermsTest::altHasBoth);
        all.test("SEQ: L(c) has the words made of a word of L(left(c)) followed by a word of L(right(c)), "
                + "either of which may be the empty word.", TermsTest::seqHasOneBehindTheOther);
        all.test("The languages of all cells together are the least ones for which these rules hold: a word "
                + "is in L(c) only if a finite number of uses of the rules shows it to be there.",
                TermsTest::languagesAreTheLeast);
        all.test("So a cell of kind ALT with both sides itself has no word, nor has a cell of kind SEQ with "
                + "a side itself.", TermsTest::cellsOfThemselvesHaveNoWord);
        all.test("Words of any length count, also those longer than M.", TermsTest::wordsLongerThanMCount);

        all.section("Completions and verdicts");
        all.test("A word u completes a word w if w followed by u is in L(root).", TermsTest::completingComesBehind);
        all.test("ACCEPTED if w is in L(root), that is, if the empty word completes w;", TermsTest::accepted);
        all.test("PARTIAL if w is not in L(root), but some word completes w;", TermsTest::partial);
        all.test("DEAD if no word completes w.", TermsTest::dead);
    }

    private static void cellsAreNumbered(Check check) {
        for (int cells = LEAST_C; cells <= MOST_C; cells++) {
            DerivativeParser x = new DerivativeParser(cells, 5, 3);
            for (int cell = 0; cell < cells; cell++) {
                check.due("define cell " + cell + " of " + cells, x.define(cell, ALT, cell, 0), OK);
            }
            for (int cell = 0; cell < cells; cell++) {
                check.due("left of cell " + cell + " of " + cells, x.left(cell), cell);
            }
            for (int cell : new int[] {-1, cells}) {
                check.due("kind of " + cell + " of " + cells, x.kind(cell), BAD_CELL);
                check.due("define " + cell + " of " + cells, x.define(cell, EMPTY, 0, 0), BAD_CELL);
                check.due("open " + cell + " of " + cells, x.open(cell), BAD_CELL);
            }
            check.due("open the last of " + cells, x.open(cells - 1), DEAD);
        }
    }

    private static void cellsHaveThreeParts(Check check) {
        DerivativeParser x = new DerivativeParser(16, 4, 8);
        for (int cell = 0; cell < 16; cell++) {
            x.define(cell, ALT + cell % 2, 15 - cell, (cell * 7 + 3) % 16);
        }
        for (int cell = 0; cell < 16; cell++) {
            check.due("kind of cell " + cell, x.kind(cell), ALT + cell % 2);
            check.due("left of cell " + cell, x.left(cell), 15 - cell);
            check.due("right of cell " + cell, x.right(cell), (cell * 7 + 3) % 16);
        }
    }

    private static void tokensAreNumbered(Check check) {
        for (int alphabet = LEAST_A; alphabet <= MOST_A; alphabet++) {
            DerivativeParser x = new DerivativeParser(4, 4, alphabet);
            for (int token = 0; token < alphabet; token++) {
                String which = token + " of " + alphabet;
                check.due("define token " + which, x.define(0, TOKEN, token, 0), OK);
                x.open(0);
                check.due("ahead of token " + which, x.ahead(token), 0);
                check.due("feed token " + which, x.feed(token), ACCEPTED);
                check.due("the token fed, " + which, x.tokenAt(0), token);
                x.close();
            }
            for (int token : new int[] {-1, alphabet}) {
                String which = token + " of " + alphabet;
                check.due("define token " + which, x.define(0, TOKEN, token, 0), BAD_TOKEN);
                x.open(0);
                check.due("ahead of token " + which, x.ahead(token), BAD_TOKEN);
                check.due("feed token " + which, x.feed(token), BAD_TOKEN);
                x.close();
            }
        }
    }

    private static void closedOrOpen(Check check) {
        closedStates().forEach((name, state) -> {
            check.due("root of " + name, state.get().root(), CLOSED);
            check.due("close of " + name, state.get().close(), CLOSED);
            check.holds("open of " + name, state.get().open(3) > 0);
            check.due("define of " + name, state.get().define(3, EMPTY, 0, 0), OK);
        });
        openStates().forEach((name, state) -> {
            check.holds("root of " + name, state.get().root() >= 0);
            check.due("close of " + name, state.get().close(), OK);
            check.due("open of " + name, state.get().open(3), OPENED);
            check.due("define of " + name, state.get().define(3, EMPTY, 0, 0), OPENED);
        });
    }

    private static void openHasRootAndInput(Check check) {
        for (int length = LEAST_M; length <= MOST_M; length++) {
            for (int root = 0; root < 8; root++) {
                DerivativeParser x = nested(length);
                x.open(root);
                for (int n = 0; n < length; n++) {
                    check.due("size before feed " + n, x.size(), n);
                    x.feed((n + root) % 3);
                }
                check.due("size of a list of M", x.size(), length);
                check.due("one more than M", x.feed(0), FULL);
                check.due("root", x.root(), root);
                for (int place = 0; place < length; place++) {
                    check.due("token at " + place, x.tokenAt(place), (place + root) % 3);
                }
            }
        }
    }

    private static void closedHasNoRootAndInput(Check check) {
        closedStates().forEach((name, state) -> {
            DerivativeParser x = state.get();
            check.due("root, " + name, x.root(), CLOSED);
            check.due("size, " + name, x.size(), CLOSED);
            check.due("tokenAt(0), " + name, x.tokenAt(0), CLOSED);
            check.due("verdict, " + name, x.verdict(), CLOSED);
            check.due("shortest, " + name, x.shortest(), CLOSED);
            check.due("longest, " + name, x.longest(), CLOSED);
            check.due("feed(0), " + name, x.feed(0), CLOSED);
            check.due("keep(0), " + name, x.keep(0), CLOSED);
            check.due("ahead(0), " + name, x.ahead(0), CLOSED);
            x.open(3);
            check.due("size once opened, " + name, x.size(), 0);
            check.due("tokenAt(0) once opened, " + name, x.tokenAt(0), BAD_PLACE);
        });
    }

    private static void cellsChangeOnlyWhileClosed(Check check) {
        openStates().forEach((name, state) -> {
            DerivativeParser x = state.get();
            String before = Look.all(x);
            for (int kind = EMPTY; kind <= SEQ; kind++) {
                for (int cell = 0; cell < 4; cell++) {
                    check.due("define kind " + kind + ", " + name, x.define(cell, kind, 1, 1), OPENED);
                }
            }
            check.same("after defining, " + name, Look.all(x), before);
            x.close();
            check.due("define once closed, " + name, x.define(3, TOKEN, 1, 0), OK);
            check.due("the content once closed, " + name, x.left(3), 1);
        });
    }

    private static void eachObjectHasItsOwnNumbers(Check check) {
        DerivativeParser[] all = new DerivativeParser[13 * 9 * 7];
        for (int i = 0; i < all.length; i++) {
            all[i] = new DerivativeParser(LEAST_C + i / 63, LEAST_M + i / 7 % 9, LEAST_A + i % 7);
        }
        for (int i = 0; i < all.length; i++) {
            Bounds.due(check, all[i], LEAST_C + i / 63, LEAST_M + i / 7 % 9, LEAST_A + i % 7);
        }
    }

    private static void theEmptyWordIsAWord(Check check) {
        DerivativeParser x = pairs(4);
        for (int root = 0; root < 2; root++) {
            check.due("least of cell " + root, x.least(root), 0);
            check.due("open cell " + root, x.open(root), ACCEPTED);
            check.due("shortest of cell " + root, x.shortest(), 0);
            check.due("longest of cell " + root, x.longest(), 0);
            x.close();
        }
        check.due("open a cell without it", x.open(2), PARTIAL);
    }

    /** All answers on a root that has no word, before and behind tokens. */
    static void noWordDue(Check check, String what, DerivativeParser x, int root) {
        check.due("least of " + what, x.least(root), NONE);
        check.due("open " + what, x.open(root), DEAD);
        for (int n = 0; n < 4; n++) {
            check.due("verdict of " + what, x.verdict(), DEAD);
            check.due("shortest of " + what, x.shortest(), NONE);
            check.due("longest of " + what, x.longest(), NONE);
            check.due("ahead(0) of " + what, x.ahead(0), NONE);
            check.due("ahead(1) of " + what, x.ahead(1), NONE);
            check.due("feed to " + what, x.feed(n % 2), DEAD);
        }
        x.close();
    }

    private static void emptyHasNoWord(Check check) {
        noWordDue(check, "a new cell", new DerivativeParser(4, 4, 2), 2);
        DerivativeParser x = new DerivativeParser(4, 4, 2);
        x.define(1, EPSILON, 0, 0);
        x.define(1, EMPTY, 0, 0);
        noWordDue(check, "a cell made empty", x, 1);
    }

    private static void epsilonHasTheEmptyWord(Check check) {
        for (int cell = 0; cell < 16; cell++) {
            DerivativeParser x = new DerivativeParser(cell + 1, 4, 2);
            x.define(cell, EPSILON, 0, 0);
            check.due("least of cell " + cell, x.least(cell), 0);
            check.due("open cell " + cell, x.open(cell), ACCEPTED);
            check.due("longest of nothing", x.longest(), 0);
            for (int token = 0; token < 2; token++) {
                check.due("ahead", x.ahead(token), NONE);
                check.due("feed", x.feed(token), DEAD);
                check.due("longest", x.longest(), 0);
                check.due("cut", x.keep(0), ACCEPTED);
            }
        }
    }

    private static void tokenHasOneWord(Check check) {
        for (int token = 0; token < 8; token++) {
            DerivativeParser x = new DerivativeParser(4, 4, 8);
            x.define(1, TOKEN, token, 0);
            check.due("least", x.least(1), 1);
            check.due("open", x.open(1), PARTIAL);
            for (int other = 0; other < 8; other++) {
                String which = other + " for " + token;
                check.due("ahead " + which, x.ahead(other), other == token ? 0 : NONE);
                check.due("feed " + which, x.feed(other), other == token ? ACCEPTED : DEAD);
                check.due("twice " + which, x.feed(token), DEAD);
                check.due("cut " + which, x.keep(0), PARTIAL);
            }
        }
    }

    /** The words of two tokens and less, over the alphabet 0 .. 2, that the root has. */
    private static String shortWords(Check check, DerivativeParser x, int root) {
        StringBuilder words = new StringBuilder();
        x.open(root);
        words.append(isWord(check, x) ? " -" : "");
        for (int first = 0; first < 3; first++) {
            x.feed(first);
            words.append(isWord(check, x) ? " " + first : "");
            for (int second = 0; second < 3; second++) {
                x.feed(second);
                words.append(isWord(check, x) ? " " + first + second : "");
                x.keep(1);
            }
            x.keep(0);
        }
        return words.toString();
    }

    /** Asked in both ways that the document has. */
    private static boolean isWord(Check check, DerivativeParser x) {
        boolean accepted = x.verdict() == ACCEPTED;
        check.holds("verdict and longest agree", accepted == (x.longest() == x.size()));
        return accepted;
    }

    /**
     * Cell 0 as given; cell 1 has 0, cell 2 has 1, cell 3 the empty word, cell 4 has no word. All of
     * them are moved on by some places, around the end, as their numbers must play no part.
     */
    private static DerivativeParser ofSmallCells(int kind, int left, int right, int moved) {
        DerivativeParser x = new DerivativeParser(5, 4, 3);
        x.define(moved % 5, kind, (left + moved) % 5, (right + moved) % 5);
        x.define((1 + moved) % 5, TOKEN, 0, 0);
        x.define((2 + moved) % 5, TOKEN, 1, 0);
        x.define((3 + moved) % 5, EPSILON, 0, 0);
        return x;
    }

    private static void smallWordsDue(Check check, int kind, int left, int right, String words) {
        for (int moved = 0; moved < 5; moved++) {
            String which = "words of kind " + kind + " of " + left + " and " + right + " moved by " + moved;
            DerivativeParser x = ofSmallCells(kind, left, right, moved);
            check.same(which, shortWords(check, x, moved), words);
        }
    }

    private static void altHasBoth(Check check) {
        smallWordsDue(check, ALT, 1, 2, " 0 1");
        smallWordsDue(check, ALT, 2, 1, " 0 1");
        smallWordsDue(check, ALT, 1, 1, " 0");
        smallWordsDue(check, ALT, 1, 3, " - 0");
        smallWordsDue(check, ALT, 3, 2, " - 1");
        smallWordsDue(check, ALT, 4, 1, " 0");
        smallWordsDue(check, ALT, 2, 4, " 1");
        smallWordsDue(check, ALT, 4, 4, "");
        smallWordsDue(check, ALT, 0, 1, " 0");
        smallWordsDue(check, ALT, 2, 0, " 1");
        for (int cells = LEAST_C; cells <= MOST_C; cells++) {
            altChainDue(check, cells, 1);
            altChainDue(check, cells, -1);
        }
    }

    /** All cells are one chain, up or down, so the root gets its word last of all. */
    private static void altChainDue(Check check, int cells, int step) {
        DerivativeParser x = new DerivativeParser(cells, 4, 2);
        int root = step > 0 ? 0 : cells - 1;
        int last = cells - 1 - root;
        for (int cell = root; cell != last; cell += step) {
            x.define(cell, ALT, cell, cell + step);
        }
        x.define(last, TOKEN, 1, 0);
        check.due("least of a chain", x.least(root), 1);
        check.due("open a chain", x.open(root), PARTIAL);
        check.due("ahead of a chain", x.ahead(1), 0);
        check.due("feed a chain", x.feed(1), ACCEPTED);
        check.due("longest of a chain", x.longest(), 1);
        check.due("past a chain", x.feed(1), DEAD);
        check.due("longest past a chain", x.longest(), 1);
    }

    private static void seqHasOneBehindTheOther(Check check) {
        smallWordsDue(check, SEQ, 1, 2, " 01");
        smallWordsDue(check, SEQ, 2, 1, " 10");
        smallWordsDue(check, SEQ, 1, 1, " 00");
        smallWordsDue(check, SEQ, 1, 3, " 0");
        smallWordsDue(check, SEQ, 3, 2, " 1");
        smallWordsDue(check, SEQ, 3, 3, " -");
        smallWordsDue(check, SEQ, 4, 1, "");
        smallWordsDue(check, SEQ, 1, 4, "");
        smallWordsDue(check, SEQ, 3, 4, "");
        smallWordsDue(check, SEQ, 4, 3, "");
        DerivativeParser x = nested(8);
        x.define(6, SEQ, 0, 0);
        check.due("two words of cell 0", x.open(6), PARTIAL);
        check.due("the first", fed(x, 0, 0, 1).feed(1), PARTIAL);
        check.due("the second", fed(x, 0).feed(1), ACCEPTED);
        check.due("no third", x.feed(0), DEAD);
    }

    private static void languagesAreTheLeast(Check check) {
        DerivativeParser x = new DerivativeParser(8, 4, 2);
        x.define(0, ALT, 1, 2);
        x.define(1, ALT, 2, 0);
        x.define(2, SEQ, 3, 0);
        x.define(3, EPSILON, 0, 0);
        x.define(4, SEQ, 6, 5);
        x.define(5, SEQ, 4, 3);
        x.define(6, TOKEN, 0, 0);
        for (int root : new int[] {0, 1, 2, 4, 5}) {
            noWordDue(check, "a ring of cells at " + root, x, root);
        }
        x.define(1, ALT, 2, 6);
        for (int root = 0; root < 3; root++) {
            check.due("least with a way out, " + root, x.least(root), 1);
            check.due("open with a way out, " + root, x.open(root), PARTIAL);
            check.due("feed with a way out, " + root, x.feed(0), ACCEPTED);
            check.due("past a way out, " + root, x.feed(0), DEAD);
            x.close();
        }
        leftRecursionDue(check);
    }

    /** Cell 0 has 0^n with n of 1 or more, by itself on the left with an empty word before it. */
    private static void leftRecursionDue(Check check) {
        DerivativeParser x = new DerivativeParser(5, 12, 2);
        x.define(0, ALT, 1, 2);
        x.define(1, SEQ, 4, 2);
        x.define(2, TOKEN, 0, 0);
        x.define(3, EPSILON, 0, 0);
        x.define(4, SEQ, 3, 0);
        check.due("least of a left recursion", x.least(0), 1);
        x.open(0);
        for (int n = 1; n <= 12; n++) {
            check.due("feed " + n + " of a left recursion", x.feed(0), ACCEPTED);
            check.due("ahead of a wrong token", x.ahead(1), NONE);
        }
    }

    private static void cellsOfThemselvesHaveNoWord(Check check) {
        DerivativeParser x = new DerivativeParser(5, 4, 2);
        x.define(1, EPSILON, 0, 0);
        x.define(2, TOKEN, 0, 0);
        x.define(3, ALT, 1, 2);
        int[][] contents = {{ALT, 0, 0}, {SEQ, 0, 0}, {SEQ, 0, 1}, {SEQ, 1, 0}, {SEQ, 0, 2},
            {SEQ, 2, 0}, {SEQ, 0, 3}, {SEQ, 3, 0}, {SEQ, 0, 4}, {SEQ, 4, 0}};
        for (int[] content : contents) {
            x.define(0, content[0], content[1], content[2]);
            String what = "kind " + content[0] + " of " + content[1] + " and " + content[2];
            noWordDue(check, what, x, 0);
        }
    }

    private static void wordsLongerThanMCount(Check check) {
        for (int length = LEAST_M; length <= MOST_M; length++) {
            DerivativeParser x = doubling(5, length);
            check.due("least above M of " + length, x.least(0), 16);
            check.due("open", x.open(0), PARTIAL);
            for (int n = 1; n <= length; n++) {
                check.due("feed " + n + " of M " + length, x.feed(0), PARTIAL);
                check.due("shortest at " + n + " of M " + length, x.shortest(), 16 - n);
            }
            check.due("ahead past M", x.ahead(0), 16 - length - 1);
        }
    }

    private static void completingComesBehind(Check check) {
        DerivativeParser x = ofSmallCells(SEQ, 1, 2, 0);
        check.due("nothing of 01", x.open(0), PARTIAL);
        check.due("what is due behind nothing", x.shortest(), 2);
        check.due("1, before which 0 would be due", x.feed(1), DEAD);
        x.keep(0);
        check.due("0, behind which 1 is due", x.feed(0), PARTIAL);
        check.due("what is due behind 0", x.shortest(), 1);
        check.due("1 behind 0", x.ahead(1), 0);
        check.due("0 behind 0", x.ahead(0), NONE);
        check.due("01", x.feed(1), ACCEPTED);
    }

    private static void accepted(Check check) {
        DerivativeParser x = pairs(6);
        check.due("nothing, though more could come", x.open(0), ACCEPTED);
        check.due("shortest of nothing", x.shortest(), 0);
        check.due("01, though more could come", fed(x, 0).feed(1), ACCEPTED);
        check.due("verdict of 01", x.verdict(), ACCEPTED);
        check.due("shortest of 01", x.shortest(), 0);
        check.due("0101", fed(x, 0).feed(1), ACCEPTED);
        check.due("cut to 01", x.keep(2), ACCEPTED);
        check.due("cut to nothing", x.keep(0), ACCEPTED);
        check.due("a word that nothing longer follows", fed(opened(nested(4), 3)).feed(0), ACCEPTED);
    }

    private static void partial(Check check) {
        DerivativeParser x = pairs(6);
        x.open(0);
        check.due("0, behind a word", x.feed(0), PARTIAL);
        check.due("010, behind a word", fed(x, 1).feed(0), PARTIAL);
        check.due("verdict of 010", x.verdict(), PARTIAL);
        check.due("cut to 0", x.keep(1), PARTIAL);
        DerivativeParser y = nested(4);
        check.due("nothing", y.open(0), PARTIAL);
        check.due("0000, which only a word longer than M completes", fed(y, 0, 0, 0).feed(0), PARTIAL);
        check.due("cut to nothing", y.keep(0), PARTIAL);
    }

    private static void dead(Check check) {
        DerivativeParser x = pairs(6);
        x.open(0);
        check.due("1", x.feed(1), DEAD);
        check.due("10, which stays so", x.feed(0), DEAD);
        check.due("verdict of 10", x.verdict(), DEAD);
        check.due("cut to 1", x.keep(1), DEAD);
        x.keep(0);
        check.due("011, behind a word", fed(x, 0, 1).feed(1), DEAD);
        check.due("2, a token of no cell", kept(x, 0).feed(2), DEAD);
        check.due("a root without words", nested(4).open(6), DEAD);
    }
}

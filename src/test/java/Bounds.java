/** Finds out the numbers C, M and A of a closed object from its answers alone. */
final class Bounds {
    private Bounds() {
    }

    /** The object is closed before, and closed again behind; cell 0 gets another content. */
    static void due(Check check, DerivativeParser x, int cells, int length, int alphabet) {
        String what = " for C " + cells + ", M " + length + ", A " + alphabet;
        check.due("C by kind" + what, cellsByKind(x), cells);
        check.due("C by define" + what, cellsByDefine(x), cells);
        check.due("A by define" + what, tokensByDefine(x), alphabet);
        x.open(0);
        check.due("A by ahead" + what, tokensByAhead(x), alphabet);
        check.due("A by feed" + what, tokensByFeed(x), alphabet);
        check.due("M by feed" + what, lengthByFeed(x), length);
        x.close();
    }

    private static int cellsByKind(DerivativeParser x) {
        int n = 0;
        while (n < 100 && x.kind(n) >= 0) {
            n++;
        }
        return n;
    }

    private static int cellsByDefine(DerivativeParser x) {
        int n = 0;
        while (n < 100 && x.define(0, DerivativeParser.ALT, 0, n) == DerivativeParser.OK) {
            n++;
        }
        return n;
    }

    private static int tokensByDefine(DerivativeParser x) {
        int n = 0;
        while (n < 100 && x.define(0, DerivativeParser.TOKEN, n, 0) == DerivativeParser.OK) {
            n++;
        }
        return n;
    }

    private static int tokensByAhead(DerivativeParser x) {
        int n = 0;
        while (n < 100 && x.ahead(n) != DerivativeParser.BAD_TOKEN) {
            n++;
        }
        return n;
    }

    private static int tokensByFeed(DerivativeParser x) {
        int n = 0;
        while (n < 100 && x.feed(n) > 0) {
            x.keep(0);
            n++;
        }
        return n;
    }

    private static int lengthByFeed(DerivativeParser x) {
        int n = 0;
        while (n < 100 && x.feed(1) != DerivativeParser.FULL) {
            n++;
        }
        return n;
    }
}

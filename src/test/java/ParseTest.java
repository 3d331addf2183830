import java.util.List;

/** Promises 10 and 11: parse and count. */
public final class ParseTest {
    private static final int CAP = LeftCorner.CAP;
    private static final int[] CATALAN = {1, 1, 2, 5, 14, 42, 132, 429, 1430, 4862, 16796, 58786};

    public static void main(String[] args) {
        nothingToParse();
        catalanNumbers();
        leftAndRightRecursion();
        unitRules();
        unitRulesInAnyOrder();
        identicalRules();
        threeSymbols();
        wholeInputFromStartSymbol();
        aroundTheCap();
        farAboveTheCap();
        saturatedPartsThatNoTreeUses();
        staysTheSame();
        clearsTheSelection();
        countFollowsTheFlag();
        oldCountsDoNotStay();
        Check.finish();
    }

    private static void parses(String what, LeftCorner x, int want) {
        List<Integer> rules = State.rules(x);
        List<Integer> input = State.input(x);
        Check.due(what + ": parse()", x.parse(), want);
        Check.due(what + ": count()", x.count(), want);
        Check.due(what + ": rules", State.rules(x), rules);
        Check.due(what + ": input", State.input(x), input);
        Check.due(what + ": parse() again", x.parse(), want);
        Check.due(what + ": count() again", x.count(), want);
    }

    private static void nothingToParse() {
        parses("fresh", new LeftCorner(1, 1), 0);
        LeftCorner x = new LeftCorner(1, 1);
        Grammars.tokens(x, 0);
        parses("no rules", x, 0);
        parses("no input", Grammars.catalan(0), 0);
    }

    private static void catalanNumbers() {
        for (int n = 1; n <= 12; n++) {
            parses("catalan " + n, Grammars.catalan(n), CATALAN[n - 1]);
        }
    }

    private static void leftAndRightRecursion() {
        LeftCorner x = new LeftCorner(2, 2);
        Grammars.rule(x, 0, 0, 9);
        Grammars.rule(x, 0, 1);
        Grammars.rule(x, 1, 8, 1);
        Grammars.rule(x, 1, 8);
        Grammars.tokens(x, 0, 0, 0, 0, 1, 1, 1);
        parses("a a a a b b b", x, 1);
        Grammars.tokens(x, 0);
        parses("a a a a b b b a", x, 0);
    }

    private static void unitRules() {
        for (int n = 1; n <= 12; n++) {
            parses("chains " + n, Grammars.longChains(n), CATALAN[n - 1]);
        }
        LeftCorner x = new LeftCorner(4, 1);
        Grammars.rule(x, 0, 1);
        Grammars.rule(x, 0, 2);
        Grammars.rule(x, 1, 3);
        Grammars.rule(x, 2, 3);
        Grammars.rule(x, 0, 3);
        Grammars.rule(x, 1, 2);
        Grammars.rule(x, 3, 8);
        Grammars.tokens(x, 0);
        parses("paths 0-1-3, 0-2-3, 0-3, 0-1-2-3", x, 4);
    }

    private static void unitRulesInAnyOrder() {
        int[][] orders = {{0, 1, 2, 3, 4, 5, 6}, {6, 5, 4, 3, 2, 1, 0}, {3, 0, 6, 1, 5, 2, 4}};
        for (int[] order : orders) {
            for (int turned = 0; turned < 2; turned++) {
                LeftCorner x = new LeftCorner(8, 1);
                // A chain from 0 over the others upwards, or downwards from 7 to 1.
                for (int k : order) {
                    int upper = turned == 0 || k == 0 ? k : 8 - k;
                    int lower = turned == 0 ? k + 1 : 7 - k;
                    Grammars.rule(x, upper, lower);
                }
                Grammars.rule(x, turned == 0 ? 7 : 1, 8);
                Grammars.tokens(x, 0);
                parses("chain", x, 1);
                Check.due("selectTree(0)", x.selectTree(0), 8);
            }
        }
    }

    private static void identicalRules() {
        LeftCorner x = new LeftCorner(2, 1);
        Grammars.copies(x, 2, 0, 1, 1);
        Grammars.copies(x, 3, 1, 8);
        Grammars.copies(x, 4, 0, 1);
        Grammars.tokens(x, 0);
        parses("4 * 3", x, 12);
        Grammars.tokens(x, 0);
        parses("2 * 3 * 3", x, 18);
    }

    private static void threeSymbols() {
        LeftCorner x = new LeftCorner(1, 2);
        Grammars.rule(x, 0, 8, 0, 9);
        Grammars.rule(x, 0, 8, 9);
        Grammars.tokens(x, 0, 0, 0, 0, 0, 0, 1, 1, 1, 1, 1, 1);
        parses("a^6 b^6", x, 1);
        LeftCorner y = new LeftCorner(1, 1);
        Grammars.rule(y, 0, 0, 0, 0);
        Grammars.rule(y, 0, 8);
        int[] want = {1, 0, 1, 0, 3, 0, 12, 0, 55, 0, 273, 0};
        for (int n = 1; n <= 12; n++) {
            Grammars.tokens(y, 0);
            parses("S -> S S S over " + n, y, want[n - 1]);
        }
    }

    private static void wholeInputFromStartSymbol() {
        LeftCorner x = new LeftCorner(2, 2);
        Grammars.rule(x, 1, 8, 9);
        Grammars.rule(x, 0, 9);
        Grammars.tokens(x, 0, 1);
        parses("only nonterminal 1 covers it", x, 0);
        x.clearInput();
        Grammars.tokens(x, 1);
        parses("b", x, 1);
        Grammars.tokens(x, 1);
        parses("b b", x, 0);
        Grammars.rule(x, 0, 0, 0);
        parses("b b, more rules", x, 1);
    }

    private static void aroundTheCap() {
        int[] nines = {9, 99, 999, 9999, 99999, 999999, CAP, CAP, CAP, CAP, CAP, CAP};
        int[] tens = {10, 100, 1000, 10000, 100000, CAP, CAP, CAP, CAP, CAP, CAP, CAP};
        for (int n = 1; n <= 12; n++) {
            parses("nines " + n, Grammars.nines(n), nines[n - 1]);
            parses("tens " + n, Grammars.tens(n), tens[n - 1]);
        }
    }

    private static void farAboveTheCap() {
        LeftCorner x = new LeftCorner(1, 1);
        Grammars.copies(x, 12, 0, 0, 0);
        Grammars.copies(x, 12, 0, 8);
        Grammars.repeat(x, 12, 0);
        parses("12 copies each", x, CAP);
        // Both halves alone are above the cap, so that their product is above 2 ^ 31.
        LeftCorner y = Grammars.tens(12);
        Grammars.rule(y, 0, 0, 0);
        Grammars.rule(y, 0, 0, 0, 0);
        parses("above and above", y, CAP);
    }

    private static void saturatedPartsThatNoTreeUses() {
        LeftCorner x = new LeftCorner(3, 2);
        Grammars.copies(x, 6, 1, 1, 1);
        Grammars.copies(x, 6, 1, 8);
        Grammars.rule(x, 0, 1, 9);
        Grammars.rule(x, 0, 1, 2);
        Grammars.rule(x, 0, 2, 1);
        Grammars.rule(x, 0, 9, 1, 2);
        Grammars.repeat(x, 12, 0);
        parses("nothing goes with nonterminal 1", x, 0);
        Grammars.rule(x, 0, 8, 0);
        Grammars.rule(x, 0, 8);
        parses("another way", x, 1);
        Check.due("selectTree(0)", x.selectTree(0), 12);
        Grammars.rule(x, 0, 1);
        parses("now it is used", x, CAP);
    }

    private static void staysTheSame() {
        LeftCorner x = Grammars.catalan(7);
        for (int i = 0; i < 5; i++) {
            Check.due("parse()", x.parse(), 132);
            x.selectTree(i);
            x.addToken(3);
            x.addRule(0, 0, -1, -1);
            Check.due("count()", x.count(), 132);
        }
    }

    private static void clearsTheSelection() {
        LeftCorner x = Grammars.catalan(4);
        x.parse();
        Check.due("selectTree(3)", x.selectTree(3), 7);
        Check.due("parse()", x.parse(), 5);
        Check.due("selection", State.selection(x), State.selection(new LeftCorner(1, 1)));
        Check.due("selectTree(3)", x.selectTree(3), 7);
    }

    private static void countFollowsTheFlag() {
        LeftCorner x = Grammars.catalan(3);
        Check.due("count() before parse()", x.count(), LeftCorner.ERR_STATE);
        Check.due("parse()", x.parse(), 2);
        Check.due("count()", x.count(), 2);
        x.addRule(0, 9, -1, -1);
        x.addToken(1);
        x.selectTree(2);
        x.selectTree(0);
        Check.due("count() after refusals and a selection", x.count(), 2);
        x.addRule(0, 8, -1, -1);
        Check.due("count() after addRule", x.count(), LeftCorner.ERR_STATE);
        Check.due("parse()", x.parse(), 16);
        x.addToken(0);
        Check.due("count() after addToken", x.count(), LeftCorner.ERR_STATE);
        Check.due("parse()", x.parse(), 80);
        x.clearInput();
        Check.due("count() after clearInput", x.count(), LeftCorner.ERR_STATE);
        Check.due("parse()", x.parse(), 0);
        Check.due("count()", x.count(), 0);
        x.clearInput();
        Check.due("count() after clearInput of no input", x.count(), LeftCorner.ERR_STATE);
    }

    private static void oldCountsDoNotStay() {
        LeftCorner x = new LeftCorner(2, 2);
        Grammars.rule(x, 0, 1);
        Grammars.rule(x, 1, 1, 1);
        Grammars.rule(x, 1, 8);
        Grammars.repeat(x, 12, 0);
        parses("a^12", x, 58786);
        x.clearInput();
        Grammars.tokens(x, 0, 1, 0);
        parses("a b a", x, 0);
        x.clearInput();
        Grammars.tokens(x, 0, 0, 0);
        parses("a a a", x, 2);
        x.clearInput();
        Grammars.tokens(x, 1);
        parses("b", x, 0);
    }
}

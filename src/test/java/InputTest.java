import java.util.List;

/** Promises 6 to 9: addToken, clearInput, inputLength and inputToken. */
public final class InputTest {
    private static final int NONE = LeftCorner.NONE;
    private static final int[] OUTSIDE = {
        Integer.MIN_VALUE, -12, -2, -1, 12, 13, 1 << 20, Integer.MAX_VALUE
    };

    public static void main(String[] args) {
        fillsTheInput();
        refusesOtherTokens();
        refusesWhenFull();
        forgetsTheParse();
        refusalChangesNothing();
        clears();
        readingChangesNothing();
        Check.finish();
    }

    private static void fillsTheInput() {
        LeftCorner x = new LeftCorner(1, 8);
        int[] given = {7, 0, 3, 3, 1, 6, 2, 5, 4, 7, 7, 0};
        for (int n = 0; n <= 12; n++) {
            Check.due("inputLength()", x.inputLength(), n);
            for (int i = 0; i < 20; i++) {
                Check.due("inputToken(" + i + ") of " + n, x.inputToken(i), i < n ? given[i] : NONE);
            }
            for (int i : OUTSIDE) {
                Check.due("inputToken(" + i + ") of " + n, x.inputToken(i), NONE);
            }
            if (n < 12) {
                Check.due("addToken(" + given[n] + ")", x.addToken(given[n]), n + 1);
            }
        }
    }

    private static void refusesOtherTokens() {
        for (int terminals = 1; terminals <= 8; terminals++) {
            LeftCorner x = new LeftCorner(8, terminals);
            for (int t = -3; t < 20; t++) {
                boolean good = 0 <= t && t < terminals;
                Check.due("addToken(" + t + ") of " + terminals, x.addToken(t), good ? t + 1 : LeftCorner.ERR_SYMBOL);
            }
            for (int t : OUTSIDE) {
                Check.due("addToken(" + t + ") of " + terminals, x.addToken(t), LeftCorner.ERR_SYMBOL);
            }
            Check.due("inputLength()", x.inputLength(), terminals);
        }
    }

    private static void refusesWhenFull() {
        LeftCorner x = Grammars.catalan(12);
        Check.due("parse()", x.parse(), 58786);
        Check.due("selectTree(58785)", x.selectTree(58785), 23);
        List<Integer> before = State.of(x);
        Check.due("addToken(0)", x.addToken(0), LeftCorner.ERR_FULL);
        Check.due("addToken(1), full", x.addToken(1), LeftCorner.ERR_SYMBOL);
        Check.due("addToken(-1), full", x.addToken(-1), LeftCorner.ERR_SYMBOL);
        Check.due("state", State.of(x), before);
    }

    private static void forgetsTheParse() {
        LeftCorner x = Grammars.catalan(4);
        List<Integer> rules = State.rules(x);
        Check.due("parse()", x.parse(), 5);
        Check.due("selectTree(1)", x.selectTree(1), 7);
        Check.due("addToken(0)", x.addToken(0), 5);
        Check.due("count()", x.count(), LeftCorner.ERR_STATE);
        Check.due("selectTree(0)", x.selectTree(0), LeftCorner.ERR_STATE);
        Check.due("selection", State.selection(x), State.selection(new LeftCorner(1, 1)));
        Check.due("rules", State.rules(x), rules);
        Check.due("parse()", x.parse(), 14);
    }

    private static void refusalChangesNothing() {
        LeftCorner x = Grammars.catalan(4);
        Check.due("parse()", x.parse(), 5);
        Check.due("selectTree(1)", x.selectTree(1), 7);
        List<Integer> before = State.of(x);
        Check.due("addToken(1)", x.addToken(1), LeftCorner.ERR_SYMBOL);
        Check.due("addToken(8)", x.addToken(8), LeftCorner.ERR_SYMBOL);
        Check.due("addToken(-1)", x.addToken(-1), LeftCorner.ERR_SYMBOL);
        Check.due("state", State.of(x), before);
    }

    private static void clears() {
        LeftCorner x = Grammars.catalan(4);
        List<Integer> rules = State.rules(x);
        Check.due("parse()", x.parse(), 5);
        Check.due("selectTree(1)", x.selectTree(1), 7);
        x.clearInput();
        isCleared(x, rules);
        Check.due("parse() of no input", x.parse(), 0);
        Check.due("count()", x.count(), 0);
        x.clearInput();
        isCleared(x, rules);
        x.clearInput();
        isCleared(x, rules);
        Grammars.repeat(x, 12, 0);
        x.clearInput();
        isCleared(x, rules);
        Grammars.repeat(x, 3, 0);
        Check.due("inputToken(2)", x.inputToken(2), 0);
        Check.due("inputToken(3)", x.inputToken(3), NONE);
        Check.due("parse()", x.parse(), 2);
    }

    private static void isCleared(LeftCorner x, List<Integer> rules) {
        Check.due("inputLength()", x.inputLength(), 0);
        for (int i = -1; i < 14; i++) {
            Check.due("inputToken(" + i + ")", x.inputToken(i), NONE);
        }
        Check.due("count()", x.count(), LeftCorner.ERR_STATE);
        Check.due("selectTree(0)", x.selectTree(0), LeftCorner.ERR_STATE);
        Check.due("selection", State.selection(x), State.selection(new LeftCorner(1, 1)));
        Check.due("rules", State.rules(x), rules);
    }

    private static void readingChangesNothing() {
        LeftCorner x = Grammars.catalan(4);
        Check.due("parse()", x.parse(), 5);
        Check.due("selectTree(2)", x.selectTree(2), 7);
        List<Integer> before = State.of(x);
        x.inputLength();
        x.inputToken(3);
        x.inputToken(4);
        x.inputToken(-1);
        Check.due("state", State.of(x), before);
    }
}

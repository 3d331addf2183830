/** Promise 1: construction and start state. */
public final class ConstructionTest {
    private static final int[] ASKED = {
        Integer.MIN_VALUE, -8, -1, 0, 1, 2, 3, 4, 5, 6, 7, 8, 9, 16, 1 << 16, Integer.MAX_VALUE
    };

    public static void main(String[] args) {
        for (int nonterminals : ASKED) {
            for (int terminals : ASKED) {
                startsEmpty(nonterminals, terminals);
                keepsItsSizes(nonterminals, terminals);
            }
        }
        objectsAreApart();
        Check.finish();
    }

    private static int clamped(int value) {
        return Math.max(1, Math.min(8, value));
    }

    private static void startsEmpty(int nonterminals, int terminals) {
        String who = "new (" + nonterminals + ", " + terminals + ") ";
        LeftCorner x = new LeftCorner(nonterminals, terminals);
        Check.due(who + "ruleCount()", x.ruleCount(), 0);
        Check.due(who + "inputLength()", x.inputLength(), 0);
        Check.due(who + "count()", x.count(), LeftCorner.ERR_STATE);
        Check.due(who + "selectTree(0)", x.selectTree(0), LeftCorner.ERR_STATE);
        Check.due(who + "selectedRank()", x.selectedRank(), LeftCorner.NONE);
        Check.due(who + "ruleSymbol(0, 0)", x.ruleSymbol(0, 0), LeftCorner.NONE);
        Check.due(who + "inputToken(0)", x.inputToken(0), LeftCorner.NONE);
        for (int k = -2; k < 5; k++) {
            Check.due(who + "nodeRule(" + k + ")", x.nodeRule(k), LeftCorner.NONE);
            Check.due(who + "nodeStart(" + k + ")", x.nodeStart(k), LeftCorner.NONE);
            Check.due(who + "nodeEnd(" + k + ")", x.nodeEnd(k), LeftCorner.NONE);
            Check.due(who + "nodeDepth(" + k + ")", x.nodeDepth(k), LeftCorner.NONE);
        }
    }

    private static void keepsItsSizes(int nonterminals, int terminals) {
        String who = "new (" + nonterminals + ", " + terminals + ") ";
        LeftCorner x = new LeftCorner(nonterminals, terminals);
        sizesAre(who, x, clamped(nonterminals), clamped(terminals));
        x.addRule(0, 8, -1, -1);
        x.addToken(0);
        x.parse();
        x.selectTree(0);
        x.clearInput();
        sizesAre(who + "used ", x, clamped(nonterminals), clamped(terminals));
    }

    private static void sizesAre(String who, LeftCorner x, int nonterminals, int terminals) {
        for (int code = -3; code < 20; code++) {
            boolean nonterminal = 0 <= code && code < nonterminals;
            boolean terminal = 8 <= code && code < 8 + terminals;
            Check.due(who + "isLeftCorner(" + code + ", same)", x.isLeftCorner(code, code), nonterminal);
            if (!nonterminal) {
                Check.due(who + "addRule(" + code + ", 8)", x.addRule(code, 8, -1, -1), LeftCorner.ERR_SYMBOL);
            }
            if (!nonterminal && !terminal) {
                Check.due(who + "addRule(0, " + code + ")", x.addRule(0, code, -1, -1), LeftCorner.ERR_SYMBOL);
            }
        }
        LeftCorner rules = new LeftCorner(nonterminals, terminals);
        Check.due(who + "last symbols", rules.addRule(nonterminals - 1, 7 + terminals, -1, -1), 0);
        Check.due(who + "addToken(T)", x.addToken(terminals), LeftCorner.ERR_SYMBOL);
        Check.due(who + "addToken(T - 1)", x.addToken(terminals - 1), 1);
        x.clearInput();
    }

    private static void objectsAreApart() {
        LeftCorner x = new LeftCorner(2, 2);
        LeftCorner y = new LeftCorner(8, 8);
        x.addRule(0, 8, -1, -1);
        x.addToken(0);
        x.parse();
        x.selectTree(0);
        Check.due("y.ruleCount()", y.ruleCount(), 0);
        Check.due("y.inputLength()", y.inputLength(), 0);
        Check.due("y.count()", y.count(), LeftCorner.ERR_STATE);
        Check.due("y.selectedRank()", y.selectedRank(), LeftCorner.NONE);
        Check.due("x.addRule(7, 8, -1, -1)", x.addRule(7, 8, -1, -1), LeftCorner.ERR_SYMBOL);
    }
}

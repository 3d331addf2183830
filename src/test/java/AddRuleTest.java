import java.util.List;

/** Promise 2: addRule. */
public final class AddRuleTest {
    private static final int NONE = LeftCorner.NONE;
    private static final int[] CODES = {
        Integer.MIN_VALUE, -7, -2, -1, 0, 1, 2, 3, 4, 7, 8, 9, 10, 15, 16, 17, 1 << 20, Integer.MAX_VALUE
    };

    public static void main(String[] args) {
        everyChoiceOfSymbols();
        everyCodeOfTheLargestGrammar();
        numbersInOrder();
        fullTable();
        orderOfConditions();
        unitCycles();
        longUnitCycle();
        noUnitCycle();
        successForgetsTheParse();
        refusalChangesNothing();
        Check.finish();
    }

    private static boolean isSymbol(int code) {
        return 0 <= code && code < 3 || 8 <= code && code < 10;
    }

    private static void everyChoiceOfSymbols() {
        for (int lhs : CODES) {
            for (int a : CODES) {
                for (int b : CODES) {
                    for (int c : CODES) {
                        oneChoice(lhs, a, b, c);
                    }
                }
            }
        }
    }

    private static void oneChoice(int lhs, int a, int b, int c) {
        boolean form = 0 <= lhs && lhs < 3 && isSymbol(a)
            && (b == NONE || isSymbol(b)) && (c == NONE || isSymbol(c)) && (b != NONE || c == NONE);
        int want = !form ? LeftCorner.ERR_SYMBOL : b == NONE && a == lhs ? LeftCorner.ERR_CYCLE : 0;
        LeftCorner x = new LeftCorner(3, 2);
        String call = "addRule(" + lhs + ", " + a + ", " + b + ", " + c + ")";
        Check.due(call, x.addRule(lhs, a, b, c), want);
        Check.due(call + " ruleCount()", x.ruleCount(), want == 0 ? 1 : 0);
        int[] symbols = {lhs, a, b, c};
        for (int pos = 0; pos < 4; pos++) {
            Check.due(call + " ruleSymbol(0, " + pos + ")", x.ruleSymbol(0, pos), want == 0 ? symbols[pos] : NONE);
        }
    }

    private static void everyCodeOfTheLargestGrammar() {
        for (int code = 0; code < 16; code++) {
            LeftCorner x = new LeftCorner(8, 8);
            Check.due("addRule(7, code, code, code)", x.addRule(7, code, code, code), 0);
            Check.due("addRule(7, code, code, -1)", x.addRule(7, code, code, NONE), 1);
        }
    }

    private static void numbersInOrder() {
        LeftCorner x = new LeftCorner(2, 2);
        Grammars.tokens(x, 1, 0, 1);
        List<Integer> input = State.input(x);
        for (int r = 0; r < LeftCorner.MAX_RULES; r++) {
            Check.due("addRule number " + r, x.addRule(r % 2, 8 + r % 2, 9, r % 3 == 0 ? NONE : r % 2), r);
            Check.due("ruleCount()", x.ruleCount(), r + 1);
            for (int old = 0; old <= r; old++) {
                Check.due("lhs of " + old, x.ruleSymbol(old, 0), old % 2);
                Check.due("first of " + old, x.ruleSymbol(old, 1), 8 + old % 2);
                Check.due("third of " + old, x.ruleSymbol(old, 3), old % 3 == 0 ? NONE : old % 2);
            }
            Check.due("input", State.input(x), input);
        }
    }

    private static LeftCorner full() {
        LeftCorner x = new LeftCorner(2, 1);
        Grammars.rule(x, 0, 1);
        Grammars.copies(x, 23, 1, 8);
        return x;
    }

    private static void fullTable() {
        LeftCorner x = full();
        Grammars.tokens(x, 0);
        Check.due("parse()", x.parse(), 23);
        Check.due("selectTree(22)", x.selectTree(22), 2);
        List<Integer> before = State.of(x);
        Check.due("rule 25", x.addRule(0, 8, NONE, NONE), LeftCorner.ERR_FULL);
        Check.due("rule 25 again", x.addRule(1, 8, 0, 1), LeftCorner.ERR_FULL);
        Check.due("state", State.of(x), before);
    }

    private static void orderOfConditions() {
        LeftCorner x = full();
        Check.due("full, symbol", x.addRule(0, 2, NONE, NONE), LeftCorner.ERR_SYMBOL);
        Check.due("full, lhs", x.addRule(2, 8, NONE, NONE), LeftCorner.ERR_SYMBOL);
        Check.due("full, gap", x.addRule(0, 0, NONE, 8), LeftCorner.ERR_SYMBOL);
        Check.due("full, cycle", x.addRule(1, 0, NONE, NONE), LeftCorner.ERR_FULL);
        Check.due("full, self", x.addRule(0, 0, NONE, NONE), LeftCorner.ERR_FULL);
        LeftCorner y = new LeftCorner(2, 1);
        Check.due("gap and self", y.addRule(0, 0, NONE, 0), LeftCorner.ERR_SYMBOL);
    }

    private static void unitCycles() {
        LeftCorner x = new LeftCorner(4, 1);
        for (int k = 0; k < 4; k++) {
            Check.due("self " + k, x.addRule(k, k, NONE, NONE), LeftCorner.ERR_CYCLE);
        }
        Grammars.rule(x, 2, 3);
        Check.due("3 -> 2", x.addRule(3, 2, NONE, NONE), LeftCorner.ERR_CYCLE);
        Grammars.rule(x, 1, 2);
        Grammars.rule(x, 1, 2);
        Check.due("3 -> 1", x.addRule(3, 1, NONE, NONE), LeftCorner.ERR_CYCLE);
        Check.due("2 -> 1", x.addRule(2, 1, NONE, NONE), LeftCorner.ERR_CYCLE);
        Grammars.rule(x, 1, 3);
        Grammars.rule(x, 0, 3);
        Grammars.rule(x, 0, 1);
        Check.due("3 -> 0", x.addRule(3, 0, NONE, NONE), LeftCorner.ERR_CYCLE);
        Check.due("2 -> 0", x.addRule(2, 0, NONE, NONE), LeftCorner.ERR_CYCLE);
        Check.due("1 -> 0", x.addRule(1, 0, NONE, NONE), LeftCorner.ERR_CYCLE);
        Check.due("ruleCount()", x.ruleCount(), 6);
    }

    private static void longUnitCycle() {
        int[][] orders = {{0, 1, 2, 3, 4, 5, 6}, {6, 5, 4, 3, 2, 1, 0}, {3, 0, 6, 1, 5, 2, 4}};
        for (int[] order : orders) {
            LeftCorner x = new LeftCorner(8, 1);
            for (int k : order) {
                Grammars.rule(x, k, k + 1);
            }
            for (int lhs = 0; lhs < 8; lhs++) {
                for (int a = 0; a <= lhs; a++) {
                    Check.due(lhs + " -> " + a, x.addRule(lhs, a, NONE, NONE), LeftCorner.ERR_CYCLE);
                }
            }
            Grammars.rule(x, 0, 7);
            Grammars.rule(x, 2, 6);
        }
    }

    private static void noUnitCycle() {
        LeftCorner x = new LeftCorner(3, 2);
        Grammars.rule(x, 0, 1, 8);
        Grammars.rule(x, 1, 0);
        Grammars.rule(x, 0, 0, 0);
        Grammars.rule(x, 0, 0, 0, 0);
        Grammars.rule(x, 2, 2, 9);
        Grammars.rule(x, 2, 1);
        Grammars.rule(x, 0, 8);
        Grammars.rule(x, 0, 8);
        Grammars.rule(x, 1, 9);
        Grammars.rule(x, 0, 2, 2);
        Check.due("0 -> 2 closes 2 -> 1 -> 0", x.addRule(0, 2, NONE, NONE), LeftCorner.ERR_CYCLE);
        Grammars.rule(x, 0, 2, 2, 2);
        // Nonterminal k and terminal k are different symbols.
        LeftCorner y = new LeftCorner(8, 8);
        for (int k = 0; k < 8; k++) {
            Grammars.rule(y, k, 8 + k);
        }
    }

    private static LeftCorner selected() {
        LeftCorner x = Grammars.catalan(5);
        Check.due("parse()", x.parse(), 14);
        Check.due("selectTree(6)", x.selectTree(6), 9);
        return x;
    }

    private static void successForgetsTheParse() {
        int[][] added = {{0, 8, NONE, NONE}, {0, 0, 0, NONE}, {0, 8, 8, 0}};
        for (int[] rule : added) {
            LeftCorner x = selected();
            Check.due("addRule", x.addRule(rule[0], rule[1], rule[2], rule[3]), 2);
            Check.due("count()", x.count(), LeftCorner.ERR_STATE);
            Check.due("selectTree(0)", x.selectTree(0), LeftCorner.ERR_STATE);
            Check.due("selection", State.selection(x), State.selection(new LeftCorner(1, 1)));
            Check.due("inputLength()", x.inputLength(), 5);
        }
    }

    private static void refusalChangesNothing() {
        int[][] refused = {
            {1, 8, NONE, NONE}, {NONE, 8, NONE, NONE}, {8, 8, NONE, NONE}, {0, NONE, NONE, NONE},
            {0, 9, NONE, NONE}, {0, 8, -2, NONE}, {0, 8, NONE, 8}, {0, 8, 8, 1}, {0, 0, NONE, NONE}
        };
        for (int[] rule : refused) {
            LeftCorner x = selected();
            List<Integer> before = State.of(x);
            int want = rule[0] == 0 && rule[1] == 0 ? LeftCorner.ERR_CYCLE : LeftCorner.ERR_SYMBOL;
            Check.due("refused addRule", x.addRule(rule[0], rule[1], rule[2], rule[3]), want);
            Check.due("state", State.of(x), before);
            LeftCorner y = new LeftCorner(1, 1);
            before = State.of(y);
            Check.due("refused addRule", y.addRule(rule[0], rule[1], rule[2], rule[3]), want);
            Check.due("fresh state", State.of(y), before);
        }
    }
}

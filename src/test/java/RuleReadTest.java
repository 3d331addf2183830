import java.util.List;

/** Promises 3 and 4: ruleCount and ruleSymbol. */
public final class RuleReadTest {
    private static final int NONE = LeftCorner.NONE;

    public static void main(String[] args) {
        countsTheRules();
        readsTheSymbols();
        readsNoneOutside();
        changesNothing();
        Check.finish();
    }

    private static void countsTheRules() {
        LeftCorner x = new LeftCorner(2, 2);
        for (int r = 0; r < 30; r++) {
            Check.due("ruleCount() after " + r, x.ruleCount(), Math.min(r, 24));
            x.addRule(0, 5, NONE, NONE);
            x.addRule(1, 1, NONE, NONE);
            Check.due("ruleCount() after refusals", x.ruleCount(), Math.min(r, 24));
            x.addRule(r % 2, 8, NONE, NONE);
        }
        x.addToken(0);
        x.parse();
        x.clearInput();
        Check.due("ruleCount() after clearInput()", x.ruleCount(), 24);
    }

    private static void readsTheSymbols() {
        LeftCorner x = new LeftCorner(8, 8);
        int[][] rules = {
            {0, 7, 15, 0}, {7, 8, NONE, NONE}, {3, 3, 12, NONE}, {5, 2, NONE, NONE}, {0, 0, 0, 0}, {6, 15, 15, 15}
        };
        for (int r = 0; r < rules.length; r++) {
            Check.due("addRule", x.addRule(rules[r][0], rules[r][1], rules[r][2], rules[r][3]), r);
        }
        for (int r = 0; r < rules.length; r++) {
            for (int pos = 0; pos < 4; pos++) {
                Check.due("ruleSymbol(" + r + ", " + pos + ")", x.ruleSymbol(r, pos), rules[r][pos]);
            }
        }
    }

    private static void readsNoneOutside() {
        int[] outside = {Integer.MIN_VALUE, Integer.MIN_VALUE + 1, -25, -4, -2, -1, 24, 25, 96, 1 << 30, Integer.MAX_VALUE};
        LeftCorner x = new LeftCorner(2, 2);
        for (int held = 0; held <= 24; held++) {
            for (int pos = -1; pos <= 4; pos++) {
                for (int r : outside) {
                    Check.due("ruleSymbol(" + r + ", " + pos + ")", x.ruleSymbol(r, pos), NONE);
                }
                for (int r = held; r < 30; r++) {
                    Check.due("ruleSymbol(" + r + ", " + pos + ")", x.ruleSymbol(r, pos), NONE);
                }
            }
            for (int r = 0; r < held; r++) {
                for (int pos : outside) {
                    Check.due("ruleSymbol(" + r + ", " + pos + ")", x.ruleSymbol(r, pos), NONE);
                }
                Check.due("ruleSymbol(" + r + ", 4)", x.ruleSymbol(r, 4), NONE);
            }
            x.addRule(1, 8, 9, 1);
        }
    }

    private static void changesNothing() {
        LeftCorner x = Grammars.catalan(4);
        Check.due("parse()", x.parse(), 5);
        Check.due("selectTree(3)", x.selectTree(3), 7);
        List<Integer> before = State.of(x);
        x.ruleCount();
        x.ruleSymbol(1, 1);
        x.ruleSymbol(2, 0);
        x.ruleSymbol(-1, 9);
        Check.due("state", State.of(x), before);
    }
}

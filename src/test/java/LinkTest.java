import java.util.List;

/** Promise 5: isLeftCorner. */
public final class LinkTest {
    public static void main(String[] args) {
        withoutRules();
        oneStepAndMore();
        longChains();
        cyclesOfLeftCorners();
        symbolsOutside();
        followsTheRulesHeldNow();
        changesNothing();
        Check.finish();
    }

    private static void due(LeftCorner x, int a, int b, boolean want) {
        Check.due("isLeftCorner(" + a + ", " + b + ")", x.isLeftCorner(a, b), want);
    }

    private static void withoutRules() {
        LeftCorner x = new LeftCorner(3, 2);
        for (int a = -2; a < 20; a++) {
            for (int b = -2; b < 20; b++) {
                due(x, a, b, a == b && 0 <= a && a < 3);
            }
        }
    }

    private static void oneStepAndMore() {
        LeftCorner x = new LeftCorner(4, 4);
        Grammars.rule(x, 0, 1, 2, 10);
        Grammars.rule(x, 1, 8, 3);
        Grammars.rule(x, 2, 9);
        Grammars.rule(x, 3, 2);
        boolean[][] want = new boolean[4][12];
        want[0][0] = want[0][1] = want[0][8] = true;
        want[1][1] = want[1][8] = true;
        want[2][2] = want[2][9] = true;
        want[3][3] = want[3][2] = want[3][9] = true;
        for (int a = 0; a < 4; a++) {
            for (int b = 0; b < 12; b++) {
                due(x, a, b, want[a][b]);
            }
        }
    }

    private static void longChains() {
        int[][] orders = {{0, 1, 2, 3, 4, 5, 6, 7}, {7, 6, 5, 4, 3, 2, 1, 0}, {4, 0, 7, 3, 5, 1, 6, 2}};
        for (int[] order : orders) {
            LeftCorner x = new LeftCorner(8, 8);
            for (int k : order) {
                // After 7 comes 15, the last terminal.
                Grammars.rule(x, k, k == 7 ? 15 : k + 1, 8);
            }
            for (int a = 0; a < 8; a++) {
                for (int b = 0; b < 16; b++) {
                    due(x, a, b, b < 8 && b >= a || b == 15);
                }
            }
        }
    }

    private static void cyclesOfLeftCorners() {
        LeftCorner x = new LeftCorner(3, 2);
        Grammars.rule(x, 0, 1, 8);
        Grammars.rule(x, 1, 2, 8);
        Grammars.rule(x, 2, 0, 8);
        Grammars.rule(x, 2, 9);
        for (int a = 0; a < 3; a++) {
            for (int b = 0; b < 3; b++) {
                due(x, a, b, true);
            }
            due(x, a, 8, false);
            due(x, a, 9, true);
        }
    }

    private static void symbolsOutside() {
        LeftCorner x = new LeftCorner(2, 2);
        Grammars.rule(x, 0, 1);
        Grammars.rule(x, 1, 8);
        int[] outside = {
            Integer.MIN_VALUE, -33, -32, -24, -2, -1, 2, 7, 10, 15, 16, 31, 32, 33, 40, 64, Integer.MAX_VALUE
        };
        for (int code : outside) {
            due(x, 0, code, false);
            due(x, 1, code, false);
            due(x, code, code, false);
            due(x, code, 0, false);
            due(x, code, 8, false);
        }
        for (int terminal = 8; terminal < 16; terminal++) {
            due(x, terminal, terminal, false);
            due(x, terminal, 0, false);
        }
    }

    private static void followsTheRulesHeldNow() {
        LeftCorner x = new LeftCorner(2, 1);
        Grammars.rule(x, 0, 1, 8);
        due(x, 0, 8, false);
        x.addToken(0);
        x.parse();
        due(x, 0, 8, false);
        Grammars.rule(x, 1, 8);
        due(x, 0, 8, true);
        x.addRule(1, 0, 8, 9);
        due(x, 1, 0, false);
        x.parse();
        x.clearInput();
        due(x, 0, 8, true);
        Grammars.rule(x, 1, 0, 8);
        due(x, 1, 0, true);
    }

    private static void changesNothing() {
        LeftCorner x = Grammars.catalan(4);
        Check.due("parse()", x.parse(), 5);
        Check.due("selectTree(3)", x.selectTree(3), 7);
        List<Integer> before = State.of(x);
        due(x, 0, 8, true);
        due(x, 0, 9, false);
        due(x, -1, 8, false);
        Check.due("state", State.of(x), before);
    }
}

/** Objects with rules and input that several tests start from. */
final class Grammars {
    private Grammars() {
    }

    static void rule(LeftCorner x, int lhs, int... rhs) {
        int before = x.ruleCount();
        int b = rhs.length > 1 ? rhs[1] : LeftCorner.NONE;
        int c = rhs.length > 2 ? rhs[2] : LeftCorner.NONE;
        Check.due("addRule(" + lhs + ", " + rhs[0] + ", " + b + ", " + c + ")", x.addRule(lhs, rhs[0], b, c), before);
    }

    static void copies(LeftCorner x, int number, int lhs, int... rhs) {
        for (int i = 0; i < number; i++) {
            rule(x, lhs, rhs);
        }
    }

    static void tokens(LeftCorner x, int... tokens) {
        for (int t : tokens) {
            int before = x.inputLength();
            Check.due("addToken(" + t + ")", x.addToken(t), before + 1);
        }
    }

    static void repeat(LeftCorner x, int number, int token) {
        for (int i = 0; i < number; i++) {
            tokens(x, token);
        }
    }

    /** S -> S S | a over n times a: as many trees as the Catalan number of n - 1. */
    static LeftCorner catalan(int n) {
        LeftCorner x = new LeftCorner(1, 1);
        rule(x, 0, 0, 0);
        rule(x, 0, 8);
        repeat(x, n, 0);
        return x;
    }

    /** Over n times a, 10 ^ n - 1 trees: each token more makes ten times as many and nine more. */
    static LeftCorner nines(int n) {
        LeftCorner x = new LeftCorner(3, 1);
        copies(x, 9, 0, 1);
        rule(x, 1, 8, 1);
        rule(x, 1, 8);
        rule(x, 0, 0, 2);
        copies(x, 10, 2, 8);
        repeat(x, n, 0);
        return x;
    }

    /** Over n times a, 10 ^ n trees. */
    static LeftCorner tens(int n) {
        LeftCorner x = new LeftCorner(2, 1);
        rule(x, 0, 0, 1);
        rule(x, 0, 1);
        copies(x, 10, 1, 8);
        repeat(x, n, 0);
        return x;
    }

    /** Seven unit rules in a chain from 0 to 7 above 7 -> 0 0 | a: the largest trees there are. */
    static LeftCorner longChains(int n) {
        LeftCorner x = new LeftCorner(8, 1);
        for (int k = 0; k < 7; k++) {
            rule(x, k, k + 1);
        }
        rule(x, 7, 0, 0);
        rule(x, 7, 8);
        repeat(x, n, 0);
        return x;
    }
}

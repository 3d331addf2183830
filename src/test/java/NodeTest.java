import java.util.List;

/** Promises 14 to 17: nodeRule, nodeStart, nodeEnd and nodeDepth. */
public final class NodeTest {
    private static final int NONE = LeftCorner.NONE;
    private static final int[] FAR = {
        Integer.MIN_VALUE, -200, -2, -1, 184, 195, 196, 197, 1000, 1 << 24, Integer.MAX_VALUE
    };

    public static void main(String[] args) {
        terminalsBetweenChildren();
        leftAndRightDepth();
        noneOutside();
        noneWithoutSelection();
        largestTree();
        readingChangesNothing();
        Check.finish();
    }

    private static void treeIs(LeftCorner x, int rank, int[][] want) {
        Check.due("selectTree(" + rank + ")", x.selectTree(rank), want.length);
        for (int k = 0; k < want.length; k++) {
            Check.due("nodeRule(" + k + ")", x.nodeRule(k), want[k][0]);
            Check.due("nodeStart(" + k + ")", x.nodeStart(k), want[k][1]);
            Check.due("nodeEnd(" + k + ")", x.nodeEnd(k), want[k][2]);
            Check.due("nodeDepth(" + k + ")", x.nodeDepth(k), want[k][3]);
        }
        noneAt(x, want.length);
    }

    private static void noneAt(LeftCorner x, int k) {
        Check.due("nodeRule(" + k + ")", x.nodeRule(k), NONE);
        Check.due("nodeStart(" + k + ")", x.nodeStart(k), NONE);
        Check.due("nodeEnd(" + k + ")", x.nodeEnd(k), NONE);
        Check.due("nodeDepth(" + k + ")", x.nodeDepth(k), NONE);
    }

    private static void terminalsBetweenChildren() {
        // S -> a A b | A c B, A -> a b | a, B -> A
        LeftCorner x = new LeftCorner(3, 3);
        Grammars.rule(x, 0, 8, 1, 9);
        Grammars.rule(x, 0, 1, 10, 2);
        Grammars.rule(x, 1, 8, 9);
        Grammars.rule(x, 1, 8);
        Grammars.rule(x, 2, 1);
        Grammars.tokens(x, 0, 1, 2, 0, 1);
        Check.due("a b c a b", x.parse(), 1);
        treeIs(x, 0, new int[][] {{1, 0, 5, 0}, {2, 0, 2, 1}, {4, 3, 5, 1}, {2, 3, 5, 2}});
        x.clearInput();
        Grammars.tokens(x, 0, 0, 1, 1);
        Check.due("a a b b", x.parse(), 1);
        treeIs(x, 0, new int[][] {{0, 0, 4, 0}, {2, 1, 3, 1}});
    }

    private static void leftAndRightDepth() {
        LeftCorner x = Grammars.catalan(3);
        Check.due("parse()", x.parse(), 2);
        treeIs(x, 0, new int[][] {{0, 0, 3, 0}, {1, 0, 1, 1}, {0, 1, 3, 1}, {1, 1, 2, 2}, {1, 2, 3, 2}});
        treeIs(x, 1, new int[][] {{0, 0, 3, 0}, {0, 0, 2, 1}, {1, 0, 1, 2}, {1, 1, 2, 2}, {1, 2, 3, 1}});
    }

    private static void noneOutside() {
        LeftCorner x = Grammars.catalan(6);
        x.parse();
        Check.due("selectTree(20)", x.selectTree(20), 11);
        for (int k : FAR) {
            noneAt(x, k);
        }
        for (int k = 11; k < 250; k++) {
            noneAt(x, k);
        }
    }

    private static void noneWithoutSelection() {
        LeftCorner x = Grammars.catalan(6);
        for (int turn = 0; turn < 4; turn++) {
            x.parse();
            noneFrom(x);
            Check.due("selectTree(41) is accepted", x.selectTree(41) > 0, true);
            Check.due("nodeEnd(0)", x.nodeEnd(0), 6);
            if (turn == 0) {
                x.addRule(0, 8, 8, 8);
                noneFrom(x);
            } else if (turn == 1) {
                x.clearInput();
                noneFrom(x);
                Grammars.repeat(x, 5, 0);
                noneFrom(x);
                x.parse();
                x.selectTree(0);
                x.addToken(0);
                noneFrom(x);
            }
        }
    }

    private static void noneFrom(LeftCorner x) {
        for (int k = -1; k < 200; k++) {
            noneAt(x, k);
        }
        for (int k : FAR) {
            noneAt(x, k);
        }
    }

    private static void largestTree() {
        LeftCorner x = Grammars.longChains(12);
        Check.due("parse()", x.parse(), 58786);
        int[] ranks = {0, 1, 2, 1000, 29393, 58784, 58785};
        for (int rank : ranks) {
            Check.due("selectTree(" + rank + ")", x.selectTree(rank), 184);
            Check.due("is a parse tree", Trees.isParseTree(x, 184), true);
            Check.due("rule of the last node", x.nodeRule(183), 8);
            Check.due("nodeStart(183)", x.nodeStart(183), 11);
            Check.due("nodeEnd(183)", x.nodeEnd(183), 12);
            noneAt(x, 184);
        }
        // The last tree leans to the left: twelve chains of eight nodes lead down to the first token.
        Check.due("nodeDepth(95)", x.nodeDepth(95), 95);
        Check.due("nodeEnd(95)", x.nodeEnd(95), 1);
        Check.due("nodeDepth(183)", x.nodeDepth(183), 15);
    }

    private static void readingChangesNothing() {
        LeftCorner x = Grammars.catalan(5);
        x.parse();
        x.selectTree(9);
        List<Integer> before = State.of(x);
        for (int k = -3; k < 12; k++) {
            x.nodeRule(k);
            x.nodeStart(k);
            x.nodeEnd(k);
            x.nodeDepth(k);
        }
        Check.due("state", State.of(x), before);
    }
}

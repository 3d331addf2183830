import java.util.List;
import java.util.function.IntBinaryOperator;

/** The boundary cases of promises 14 to 17, the node getters, and of "Not promised", sentence by sentence. */
public final class BoundaryNodeTest {
    private static final int NONE = LeftCorner.NONE;
    private static final int RULE = 0;
    private static final int START = 1;
    private static final int END = 2;
    private static final int DEPTH = 3;
    private static final String[] NAMES = {"nodeRule", "nodeStart", "nodeEnd", "nodeDepth"};
    private static final int[] FAR = {
        Integer.MIN_VALUE, Integer.MIN_VALUE + 1, -65536, -256, -184, -12, -2, -1, 184, 185, 195, 196, 197, 256, 1000,
        65536, 1 << 30, Integer.MAX_VALUE - 1, Integer.MAX_VALUE
    };

    public static void main(String[] args) {
        Check.sentence("14: nodeRule(k) answers the rule number of node k of the selected tree.",
            BoundaryNodeTest::rules);
        Check.sentence("14: It answers NONE if there is no selection.", () -> noSelection(RULE));
        Check.sentence("14: or k is not in 0..nodes-1.", () -> noSuchNode(RULE));
        Check.sentence("14: For node 0 the rule's lhs is 0.", BoundaryNodeTest::lhsOfTheRoot);
        Check.sentence("14: Changes nothing.", () -> changesNothing(RULE));
        Check.sentence("15: nodeStart(k) answers the span start s of node k.", BoundaryNodeTest::starts);
        Check.sentence("15: or NONE under the same refusal as nodeRule (no selection).", () -> noSelection(START));
        Check.sentence("15: or NONE under the same refusal as nodeRule (k not in 0..nodes-1).",
            () -> noSuchNode(START));
        Check.sentence("15: Node 0 has start 0.", BoundaryNodeTest::startOfTheRoot);
        Check.sentence("15: Changes nothing.", () -> changesNothing(START));
        Check.sentence("16: nodeEnd(k) answers the span end e of node k.", BoundaryNodeTest::ends);
        Check.sentence("16: or NONE under the same refusal as nodeRule (no selection).", () -> noSelection(END));
        Check.sentence("16: or NONE under the same refusal as nodeRule (k not in 0..nodes-1).", () -> noSuchNode(END));
        Check.sentence("16: Node 0 has end n, the input length.", BoundaryNodeTest::endOfTheRoot);
        Check.sentence("16: for every node, nodeStart(k) < nodeEnd(k).", BoundaryNodeTest::startBeforeEnd);
        Check.sentence("16: Changes nothing.", () -> changesNothing(END));
        Check.sentence("17: nodeDepth(k) answers the depth of node k (root 0).", BoundaryNodeTest::depthOfTheRoot);
        Check.sentence("17: a child one more than its parent.", BoundaryNodeTest::depths);
        Check.sentence("17: or NONE under the same refusal as nodeRule (no selection).", () -> noSelection(DEPTH));
        Check.sentence("17: or NONE under the same refusal as nodeRule (k not in 0..nodes-1).",
            () -> noSuchNode(DEPTH));
        Check.sentence("17: Changes nothing.", () -> changesNothing(DEPTH));
        Check.sentence("Not promised: When count() is CAP, no tree can be selected.", BoundaryNodeTest::noTreeAtCap);
        Check.sentence("Not promised: selectedRank() answers NONE exactly when there is no selection.",
            BoundaryNodeTest::rankAndNodes);
        Check.sentence("Not promised: Terminal leaves cannot be read back.", BoundaryNodeTest::noLeaves);
        Check.finish();
    }

    private static int read(LeftCorner x, int field, int k) {
        switch (field) {
            case RULE: return x.nodeRule(k);
            case START: return x.nodeStart(k);
            case END: return x.nodeEnd(k);
            default: return x.nodeDepth(k);
        }
    }

    private static void due(LeftCorner x, int field, int k, int want) {
        Check.due(NAMES[field] + "(" + k + ")", read(x, field, k), want);
    }

    private static void noneAnywhere(LeftCorner x, int field) {
        for (int k = -2; k < 260; k++) {
            due(x, field, k, NONE);
        }
        for (int k : FAR) {
            due(x, field, k, NONE);
        }
    }

    private static LeftCorner selected(LeftCorner x, int count, int rank, int nodes) {
        Check.due("parse()", x.parse(), count);
        Check.due("selectTree(" + rank + ")", x.selectTree(rank), nodes);
        return x;
    }

    private static void noSelection(int field) {
        noneAnywhere(new LeftCorner(8, 8), field);
        for (int turn = 0; turn < 6; turn++) {
            LeftCorner x = Grammars.longChains(11);
            noneAnywhere(x, field);
            x.parse();
            noneAnywhere(x, field);
            Check.due("selectTree(16796)", x.selectTree(16796), LeftCorner.ERR_RANGE);
            noneAnywhere(x, field);
            Check.due("selectTree(16795)", x.selectTree(16795), 168);
            Check.due("there is a node 0", read(x, field, 0) != NONE, true);
            if (turn == 0) {
                x.parse();
            } else if (turn == 1) {
                x.clearInput();
            } else if (turn == 2) {
                Grammars.tokens(x, 0);
            } else if (turn == 3) {
                Grammars.rule(x, 7, 8, 8, 8);
            } else if (turn == 4) {
                x.clearInput();
                x.parse();
            } else {
                Grammars.tokens(x, 0);
                x.parse();
            }
            noneAnywhere(x, field);
        }
    }

    private static void noSuchNode(int field) {
        for (int n = 1; n <= 12; n++) {
            LeftCorner x = Grammars.catalan(n);
            x.parse();
            int nodes = x.selectTree(x.count() - 1);
            Check.due("nodes over " + n, nodes, 2 * n - 1);
            due(x, field, -1, NONE);
            Check.due("there is a first node", read(x, field, 0) != NONE, true);
            Check.due("there is a last node", read(x, field, nodes - 1) != NONE, true);
            for (int k = nodes; k < 260; k++) {
                due(x, field, k, NONE);
            }
            for (int k : FAR) {
                due(x, field, k, NONE);
            }
        }
        LeftCorner most = selected(Grammars.longChains(12), 58786, 0, 184);
        Check.due("there is a node 183", read(most, field, 183) != NONE, true);
        for (int k : FAR) {
            due(most, field, k, NONE);
        }
        // A short tree after a long one.
        LeftCorner x = new LeftCorner(2, 1);
        Grammars.rule(x, 0, 1);
        Grammars.rule(x, 0, 8);
        Grammars.rule(x, 1, 8);
        Grammars.tokens(x, 0);
        selected(x, 2, 0, 2);
        Check.due("there is a node 1", read(x, field, 1) != NONE, true);
        Check.due("selectTree(1)", x.selectTree(1), 1);
        due(x, field, 1, NONE);
    }

    private static void changesNothing(int field) {
        for (int k : new int[] {-1, 0, 1, 6, 7, 184, Integer.MAX_VALUE}) {
            Situations.changesNothing(NAMES[field] + "(" + k + ")", x -> read(x, field, k));
        }
    }

    /** S -> A a B | A A, A -> B, B -> a | a a, over five tokens. */
    private static LeftCorner mixed() {
        LeftCorner x = new LeftCorner(3, 1);
        Grammars.rule(x, 0, 1, 8, 2);
        Grammars.rule(x, 0, 1, 1);
        Grammars.rule(x, 1, 2);
        Grammars.rule(x, 2, 8);
        Grammars.rule(x, 2, 8, 8);
        Grammars.repeat(x, 5, 0);
        return selected(x, 1, 0, 4);
    }

    private static void column(LeftCorner x, int field, int... want) {
        for (int k = 0; k < want.length; k++) {
            due(x, field, k, want[k]);
        }
        due(x, field, want.length, NONE);
    }

    private static void rules() {
        column(mixed(), RULE, 0, 2, 4, 4);
        // The first and the last number of a full table.
        LeftCorner x = new LeftCorner(1, 1);
        Grammars.copies(x, 24, 0, 8);
        Grammars.tokens(x, 0);
        selected(x, 24, 0, 1);
        column(x, RULE, 0);
        selected(x, 24, 23, 1);
        column(x, RULE, 23);
    }

    private static void lhsOfTheRoot() {
        // The rules of the start symbol come last.
        LeftCorner x = new LeftCorner(8, 1);
        for (int k = 7; k > 0; k--) {
            Grammars.rule(x, k, 8);
            Grammars.rule(x, k, k, k);
        }
        Grammars.rule(x, 0, 7);
        Grammars.rule(x, 0, 1, 7);
        Grammars.repeat(x, 4, 0);
        Check.due("parse()", x.parse(), 10);
        for (int rank = 0; rank < 10; rank++) {
            x.selectTree(rank);
            Check.due("lhs of nodeRule(0)", x.ruleSymbol(x.nodeRule(0), 0), 0);
        }
    }

    private static void starts() {
        column(mixed(), START, 0, 0, 0, 3);
        // The first and the last position of a full input.
        LeftCorner x = selected(Grammars.catalan(12), 58786, 0, 23);
        due(x, START, 1, 0);
        due(x, START, 22, 11);
    }

    private static void rootOfEveryTree(int field, IntBinaryOperator want) {
        for (int n = 1; n <= 12; n++) {
            LeftCorner x = Grammars.catalan(n);
            int count = x.parse();
            for (int rank = 0; rank < count; rank += 1 + count / 50) {
                x.selectTree(rank);
                due(x, field, 0, want.applyAsInt(n, rank));
            }
        }
    }

    private static void startOfTheRoot() {
        rootOfEveryTree(START, (n, rank) -> 0);
    }

    private static void ends() {
        column(mixed(), END, 5, 2, 2, 5);
        LeftCorner x = selected(Grammars.catalan(12), 58786, 0, 23);
        due(x, END, 1, 1);
        due(x, END, 22, 12);
    }

    private static void endOfTheRoot() {
        rootOfEveryTree(END, (n, rank) -> n);
    }

    private static void startBeforeEnd() {
        LeftCorner[] all = {Grammars.catalan(1), Grammars.catalan(7), Grammars.longChains(6), Grammars.nines(3)};
        for (LeftCorner x : all) {
            x.parse();
            for (int rank = 0; rank < x.count(); rank++) {
                int nodes = x.selectTree(rank);
                for (int k = 0; k < nodes; k++) {
                    Check.due("node " + k + " covers a token", x.nodeStart(k) < x.nodeEnd(k), true);
                }
            }
        }
    }

    private static void depthOfTheRoot() {
        rootOfEveryTree(DEPTH, (n, rank) -> 0);
    }

    private static void depths() {
        column(mixed(), DEPTH, 0, 1, 2, 1);
        // Leaning right, then left: the deepest nodes there are.
        LeftCorner x = selected(Grammars.longChains(12), 58786, 0, 184);
        due(x, DEPTH, 183, 95);
        due(x, DEPTH, 8, 8);
        due(x, DEPTH, 16, 8);
        selected(x, 58786, 58785, 184);
        due(x, DEPTH, 95, 95);
        due(x, DEPTH, 96, 88);
        due(x, DEPTH, 183, 15);
        LeftCorner line = new LeftCorner(1, 1);
        Grammars.rule(line, 0, 8, 0);
        Grammars.rule(line, 0, 8);
        Grammars.repeat(line, 12, 0);
        selected(line, 1, 0, 12);
        column(line, DEPTH, 0, 1, 2, 3, 4, 5, 6, 7, 8, 9, 10, 11);
    }

    private static void noTreeAtCap() {
        List<Integer> none = State.selection(new LeftCorner(1, 1));
        // A tree was selected before the count came to the cap.
        LeftCorner x = Grammars.tens(5);
        selected(x, 100000, 99999, 10);
        Grammars.tokens(x, 0);
        Check.due("parse()", x.parse(), LeftCorner.CAP);
        for (int rank : new int[] {0, 99999, 100000, LeftCorner.CAP - 1, LeftCorner.CAP}) {
            Check.due("selectTree(" + rank + ")", x.selectTree(rank), LeftCorner.ERR_RANGE);
            Check.due("selection", State.selection(x), none);
        }
    }

    private static void rankAndNodes() {
        for (int which = 0; which < Situations.NUMBER; which++) {
            LeftCorner x = Situations.make(which);
            boolean rank = x.selectedRank() != NONE;
            boolean due = Situations.name(which).endsWith("selected");
            Check.due(Situations.name(which) + ", selectedRank() is one", rank, due);
            for (int field = RULE; field <= DEPTH; field++) {
                Check.due(Situations.name(which) + ", " + NAMES[field] + "(0) is one", read(x, field, 0) != NONE, due);
            }
        }
    }

    private static void noLeaves() {
        LeftCorner x = new LeftCorner(1, 3);
        Grammars.rule(x, 0, 8, 9, 10);
        Grammars.tokens(x, 0, 1, 2);
        selected(x, 1, 0, 1);
        for (int field = RULE; field <= DEPTH; field++) {
            for (int k = 1; k < 5; k++) {
                due(x, field, k, NONE);
            }
        }
    }
}

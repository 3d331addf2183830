import java.util.Arrays;
import java.util.List;

/** Promises 12 and 13: selectTree and selectedRank. */
public final class SelectTreeTest {
    private static final int ERR_STATE = LeftCorner.ERR_STATE;
    private static final int ERR_RANGE = LeftCorner.ERR_RANGE;
    private static final int[] FAR = {Integer.MIN_VALUE, -1000000, -6, -1, 1000000, 1000001, Integer.MAX_VALUE};

    public static void main(String[] args) {
        beforeAParse();
        outOfRange();
        noTree();
        saturated();
        refusalKeepsTheSelection();
        replacesTheSelection();
        otherCallsAndTheSelection();
        wholeOrderOfThreeChildren();
        lengthBeforeRule();
        ruleBeforeSplit();
        everyTreeInOrder();
        ranksJustBelowTheCap();
        Check.finish();
    }

    private static void beforeAParse() {
        int[] ranks = {Integer.MIN_VALUE, -1, 0, 1, Integer.MAX_VALUE};
        LeftCorner x = Grammars.catalan(3);
        for (int rank : ranks) {
            Check.due("fresh selectTree(" + rank + ")", new LeftCorner(1, 1).selectTree(rank), ERR_STATE);
            Check.due("selectTree(" + rank + ") before parse()", x.selectTree(rank), ERR_STATE);
        }
        Check.due("selectedRank()", x.selectedRank(), LeftCorner.NONE);
        x.parse();
        Check.due("selectTree(0)", x.selectTree(0), 5);
        x.addToken(0);
        for (int rank : ranks) {
            Check.due("selectTree(" + rank + ") after addToken", x.selectTree(rank), ERR_STATE);
        }
        Check.due("selectedRank()", x.selectedRank(), LeftCorner.NONE);
    }

    private static void outOfRange() {
        LeftCorner x = Grammars.catalan(5);
        Check.due("parse()", x.parse(), 14);
        for (int rank : FAR) {
            Check.due("selectTree(" + rank + ")", x.selectTree(rank), ERR_RANGE);
        }
        Check.due("selectTree(14)", x.selectTree(14), ERR_RANGE);
        Check.due("selectedRank()", x.selectedRank(), LeftCorner.NONE);
        Check.due("selectTree(13)", x.selectTree(13), 9);
        Check.due("selectedRank()", x.selectedRank(), 13);
        Check.due("selectTree(0)", x.selectTree(0), 9);
        Check.due("selectedRank()", x.selectedRank(), 0);
    }

    private static void noTree() {
        LeftCorner x = Grammars.catalan(0);
        Check.due("parse()", x.parse(), 0);
        LeftCorner y = new LeftCorner(1, 2);
        Grammars.rule(y, 0, 8);
        Grammars.tokens(y, 1);
        Check.due("parse()", y.parse(), 0);
        for (int rank = -2; rank < 3; rank++) {
            Check.due("no input, selectTree(" + rank + ")", x.selectTree(rank), ERR_RANGE);
            Check.due("no tree, selectTree(" + rank + ")", y.selectTree(rank), ERR_RANGE);
        }
    }

    private static void saturated() {
        for (LeftCorner x : List.of(Grammars.tens(6), Grammars.nines(7), Grammars.tens(12))) {
            Check.due("parse()", x.parse(), LeftCorner.CAP);
            List<Integer> before = State.of(x);
            for (int rank : new int[] {0, 1, 500000, 999998, 999999}) {
                Check.due("selectTree(" + rank + ") at CAP", x.selectTree(rank), ERR_RANGE);
            }
            for (int rank : FAR) {
                Check.due("selectTree(" + rank + ") at CAP", x.selectTree(rank), ERR_RANGE);
            }
            Check.due("state", State.of(x), before);
        }
    }

    private static void refusalKeepsTheSelection() {
        LeftCorner x = Grammars.catalan(5);
        x.parse();
        Check.due("selectTree(7)", x.selectTree(7), 9);
        List<Integer> before = State.of(x);
        for (int rank : FAR) {
            x.selectTree(rank);
        }
        x.selectTree(14);
        x.selectTree(-1);
        Check.due("state", State.of(x), before);
    }

    private static void replacesTheSelection() {
        // One tree of three nodes, then one of a single node: nothing of the longer one stays.
        LeftCorner x = new LeftCorner(3, 1);
        Grammars.rule(x, 0, 1);
        Grammars.rule(x, 1, 2);
        Grammars.rule(x, 2, 8);
        Grammars.rule(x, 0, 8);
        Grammars.tokens(x, 0);
        Check.due("parse()", x.parse(), 2);
        Check.due("selectTree(0)", x.selectTree(0), 3);
        List<Integer> first = State.selection(x);
        Check.due("selectTree(1)", x.selectTree(1), 1);
        Check.due("tree 1", Trees.read(x, 1), List.of(3, 0, 1, 0));
        Check.due("nodeRule(1)", x.nodeRule(1), LeftCorner.NONE);
        Check.due("nodeDepth(2)", x.nodeDepth(2), LeftCorner.NONE);
        Check.due("selectTree(0) again", x.selectTree(0), 3);
        Check.due("same tree again", State.selection(x), first);
        Check.due("selectTree(0) once more", x.selectTree(0), 3);
        Check.due("same tree once more", State.selection(x), first);
        Check.due("tree 0", Trees.read(x, 3), List.of(0, 0, 1, 0, 1, 0, 1, 1, 2, 0, 1, 2));
    }

    private static void otherCallsAndTheSelection() {
        LeftCorner x = Grammars.catalan(4);
        x.parse();
        List<Integer> rules = State.rules(x);
        List<Integer> input = State.input(x);
        Check.due("selectTree(4)", x.selectTree(4), 7);
        Check.due("count() after selectTree", x.count(), 5);
        Check.due("rules after selectTree", State.rules(x), rules);
        Check.due("input after selectTree", State.input(x), input);
        List<Integer> before = State.of(x);
        x.addRule(0, 0, -1, -1);
        x.addToken(1);
        x.isLeftCorner(0, 8);
        x.selectedRank();
        Check.due("state", State.of(x), before);
        x.parse();
        Check.due("selectedRank() after parse()", x.selectedRank(), LeftCorner.NONE);
        x.selectTree(4);
        x.clearInput();
        Check.due("selectedRank() after clearInput()", x.selectedRank(), LeftCorner.NONE);
    }

    private static void signaturesAre(LeftCorner x, int[][] want) {
        Check.due("parse()", x.parse(), want.length);
        for (int rank = 0; rank < want.length; rank++) {
            int[] got = Trees.select(x, rank);
            Check.due("tree " + rank, Arrays.toString(got), Arrays.toString(want[rank]));
        }
    }

    private static void wholeOrderOfThreeChildren() {
        // The first child's rule weighs more than the second child's length.
        LeftCorner x = new LeftCorner(2, 1);
        Grammars.rule(x, 0, 1, 1, 1);
        Grammars.rule(x, 1, 8);
        Grammars.rule(x, 1, 8, 8);
        Grammars.rule(x, 1, 8);
        Grammars.repeat(x, 4, 0);
        signaturesAre(x, new int[][] {
            {4, 0, 1, 1, 1, 1, 2, 2}, {4, 0, 1, 1, 1, 3, 2, 2}, {4, 0, 1, 1, 2, 2, 1, 1}, {4, 0, 1, 1, 2, 2, 1, 3},
            {4, 0, 1, 3, 1, 1, 2, 2}, {4, 0, 1, 3, 1, 3, 2, 2}, {4, 0, 1, 3, 2, 2, 1, 1}, {4, 0, 1, 3, 2, 2, 1, 3},
            {4, 0, 2, 2, 1, 1, 1, 1}, {4, 0, 2, 2, 1, 1, 1, 3}, {4, 0, 2, 2, 1, 3, 1, 1}, {4, 0, 2, 2, 1, 3, 1, 3}
        });
    }

    private static void lengthBeforeRule() {
        // The shorter child comes first though its rule has the greater number.
        LeftCorner x = new LeftCorner(2, 1);
        Grammars.rule(x, 1, 8, 8);
        Grammars.rule(x, 0, 1, 1);
        Grammars.rule(x, 1, 8);
        Grammars.repeat(x, 3, 0);
        signaturesAre(x, new int[][] {{3, 1, 1, 2, 2, 0}, {3, 1, 2, 0, 1, 2}});
    }

    private static void ruleBeforeSplit() {
        // The root's rule decides first, whatever its children; terminals add nothing to a signature.
        LeftCorner x = new LeftCorner(2, 1);
        Grammars.rule(x, 1, 8, 8);
        Grammars.rule(x, 0, 8, 1, 8);
        Grammars.rule(x, 0, 1, 8, 8);
        Grammars.rule(x, 0, 1, 1);
        Grammars.rule(x, 0, 8, 8, 1);
        Grammars.repeat(x, 4, 0);
        signaturesAre(x, new int[][] {{4, 1, 2, 0}, {4, 2, 2, 0}, {4, 3, 2, 0, 2, 0}, {4, 4, 2, 0}});
    }

    private static void increases(LeftCorner x, int want) {
        Check.due("parse()", x.parse(), want);
        int[] last = {};
        for (int rank = 0; rank < want && Check.allRight(); rank++) {
            int[] next = Trees.select(x, rank);
            Check.due("signature " + rank + " after the one before", Trees.compare(last, next) < 0, true);
            last = next;
        }
        Check.due("selectTree(count)", x.selectTree(want), ERR_RANGE);
    }

    /** As many different parse trees as there are, in rising order, are all of them in their order. */
    private static void everyTreeInOrder() {
        increases(Grammars.catalan(12), 58786);
        increases(Grammars.longChains(9), 1430);
        increases(Grammars.nines(4), 9999);
        increases(Grammars.tens(4), 10000);
        LeftCorner x = new LeftCorner(3, 2);
        Grammars.rule(x, 0, 0, 0, 1);
        Grammars.rule(x, 1, 2);
        Grammars.rule(x, 2, 8, 0);
        Grammars.rule(x, 0, 8);
        Grammars.rule(x, 1, 0, 9);
        Grammars.rule(x, 0, 1, 0);
        Grammars.rule(x, 1, 9);
        Grammars.tokens(x, 1, 0, 1, 0, 0, 1, 0, 0, 1, 1, 0, 1);
        Check.due("this grammar is ambiguous", x.parse() > 100, true);
        increases(x, x.count());
    }

    private static void ranksJustBelowTheCap() {
        LeftCorner x = Grammars.nines(6);
        Check.due("parse()", x.parse(), 999999);
        int[] last = {};
        for (int rank = 0; rank < 999999 && Check.allRight(); rank += 1 + rank % 997) {
            int[] next = Trees.select(x, rank);
            Check.due("signature " + rank, Trees.compare(last, next) < 0, true);
            last = next;
        }
        for (int rank = 999990; rank < 999999; rank++) {
            Trees.select(x, rank);
        }
        Check.due("selectTree(999999)", x.selectTree(999999), ERR_RANGE);
        Check.due("first tree", Arrays.toString(Trees.select(x, 0)),
            Arrays.toString(new int[] {6, 0, 6, 9, 5, 9, 4, 9, 3, 9, 2, 9, 1, 10}));
        Check.due("last tree", Arrays.toString(Trees.select(x, 999998)),
            Arrays.toString(new int[] {
                6, 11, 5, 11, 4, 11, 3, 11, 2, 11, 1, 8, 1, 10, 1, 21, 1, 21, 1, 21, 1, 21, 1, 21
            }));
    }
}

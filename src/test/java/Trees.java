import java.util.ArrayList;
import java.util.Arrays;
import java.util.List;

/** Reads the selected tree back and holds it against the document's definition of a parse tree. */
final class Trees {
    private Trees() {
    }

    /** Selects a rank and checks the answer, the rank and the tree; answers the tree's signature. */
    static int[] select(LeftCorner x, int rank) {
        int nodes = x.selectTree(rank);
        Check.due("selectTree(" + rank + ") is a number of nodes", nodes >= 1, true);
        Check.due("selectedRank()", x.selectedRank(), rank);
        Check.due("tree " + rank + " is a parse tree of the input", isParseTree(x, nodes), true);
        return signature(x, nodes);
    }

    static int[] signature(LeftCorner x, int nodes) {
        int[] signature = new int[2 * Math.max(nodes, 0)];
        for (int k = 0; k < nodes; k++) {
            signature[2 * k] = x.nodeEnd(k) - x.nodeStart(k);
            signature[2 * k + 1] = x.nodeRule(k);
        }
        return signature;
    }

    static int compare(int[] one, int[] other) {
        return Arrays.compare(one, other);
    }

    /** As rule, start, end and depth of each node. */
    static List<Integer> read(LeftCorner x, int nodes) {
        List<Integer> tree = new ArrayList<>();
        for (int k = 0; k < nodes; k++) {
            tree.addAll(List.of(x.nodeRule(k), x.nodeStart(k), x.nodeEnd(k), x.nodeDepth(k)));
        }
        return tree;
    }

    static boolean isParseTree(LeftCorner x, int nodes) {
        if (nodes < 1 || x.nodeStart(0) != 0 || x.nodeEnd(0) != x.inputLength()) {
            return false;
        }
        if (x.nodeRule(nodes) != LeftCorner.NONE || x.nodeRule(-1) != LeftCorner.NONE) {
            return false;
        }
        return afterSubtree(x, nodes, 0, 0, 0) == nodes;
    }

    /** The node after the subtree at node k, which must have that symbol and depth; -1 if it is wrong. */
    private static int afterSubtree(LeftCorner x, int nodes, int k, int symbol, int depth) {
        if (k >= nodes || x.nodeDepth(k) != depth || x.ruleSymbol(x.nodeRule(k), 0) != symbol) {
            return -1;
        }
        int next = k + 1;
        int position = x.nodeStart(k);
        for (int pos = 1; pos <= 3; pos++) {
            int child = x.ruleSymbol(x.nodeRule(k), pos);
            if (child >= LeftCorner.TERMINAL_BASE) {
                if (x.inputToken(position) != child - LeftCorner.TERMINAL_BASE) {
                    return -1;
                }
                position++;
            } else if (child != LeftCorner.NONE) {
                if (next >= nodes || x.nodeStart(next) != position || x.nodeEnd(next) <= position) {
                    return -1;
                }
                position = x.nodeEnd(next);
                next = afterSubtree(x, nodes, next, child, depth + 1);
                if (next < 0) {
                    return -1;
                }
            }
        }
        return position == x.nodeEnd(k) ? next : -1;
    }
}

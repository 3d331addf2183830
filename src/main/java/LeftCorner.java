/**
 * Parses an input by a small context-free grammar without empty rules, counts the parse trees and
 * selects the one of a given rank.
 */
public final class LeftCorner {
    public static final int NONE = -1;
    public static final int ERR_SYMBOL = -2;
    public static final int ERR_FULL = -3;
    public static final int ERR_CYCLE = -4;
    public static final int ERR_STATE = -5;
    public static final int ERR_RANGE = -6;
    public static final int CAP = 1000000;
    public static final int TERMINAL_BASE = 8;
    public static final int MAX_RULES = 24;
    public static final int MAX_INPUT = 12;

    private static final int MAX_KINDS = 8;
    private static final int START_SYMBOL = 0;

    private static final int LAST_PLACE = 3;
    private static final int RULE_WIDTH = LAST_PLACE + 1;
    private static final int RULE_CELLS = MAX_RULES * RULE_WIDTH;

    private static final int EDGES = MAX_INPUT + 1;
    private static final int TREE_CELLS = MAX_KINDS * EDGES * EDGES;

    // Without its unit rules a tree over 12 tokens has at most 11 nodes that branch and 12 that don't.
    // Above each stand at most 7 unit rules, for a longer chain of them would be a cycle.
    private static final int MAX_NODES = (2 * MAX_INPUT - 1) * MAX_KINDS;
    private static final int MAX_PARTS = MAX_NODES + MAX_INPUT;

    private final int nonterminals;
    private final int terminals;

    private final int[] ruleCells = new int[RULE_CELLS];
    private int rulesHeld;

    private final int[] tokens = new int[MAX_INPUT];
    private int tokensHeld;

    private boolean parsed;
    private int storedCount;
    private final int[] unitLevel = new int[MAX_KINDS];
    private final int[] trees = new int[TREE_CELLS];
    private final int[] ways = new int[EDGES];

    private int chosenRank = NONE;
    private int nodes;
    private final int[] ruleOfNode = new int[MAX_PARTS];
    private final int[] startOfNode = new int[MAX_PARTS];
    private final int[] endOfNode = new int[MAX_PARTS];
    private final int[] depthOfNode = new int[MAX_PARTS];

    // A stack of the right-hand sides whose symbols from some place on have yet to become nodes.
    private int tails;
    private final int[] tailRule = new int[MAX_PARTS];
    private final int[] tailPlace = new int[MAX_PARTS];
    private final int[] tailStart = new int[MAX_PARTS];
    private final int[] tailEnd = new int[MAX_PARTS];
    private final int[] tailRank = new int[MAX_PARTS];
    private final int[] tailDepth = new int[MAX_PARTS];

    public LeftCorner(int nonterminals, int terminals) {
        this.nonterminals = clampKinds(nonterminals);
        this.terminals = clampKinds(terminals);
    }

    public int addRule(int lhs, int a, int b, int c) {
        if (!isRuleForm(lhs, a, b, c)) {
            return ERR_SYMBOL;
        }
        if (rulesHeld >= MAX_RULES) {
            return ERR_FULL;
        }
        if (b == NONE && closesUnitCycle(lhs, a)) {
            return ERR_CYCLE;
        }
        int number = rulesHeld;
        int base = number * RULE_WIDTH;
        ruleCells[base] = lhs;
        ruleCells[base + 1] = a;
        ruleCells[base + 2] = b;
        ruleCells[base + 3] = c;
        rulesHeld = number + 1;
        forgetParse();
        return number;
    }

    public int ruleCount() {
        return rulesHeld;
    }

    public int ruleSymbol(int r, int pos) {
        if (r < 0 || r >= rulesHeld || pos < 0 || pos > LAST_PLACE) {
            return NONE;
        }
        return ruleCells[r * RULE_WIDTH + pos];
    }

    public boolean isLeftCorner(int a, int b) {
        if (!isNonterminal(a) || !isSymbol(b)) {
            return false;
        }
        int corners = cornersFrom(a, false);
        return holds(corners, b);
    }

    public int addToken(int t) {
        if (t < 0 || t >= terminals) {
            return ERR_SYMBOL;
        }
        if (tokensHeld >= MAX_INPUT) {
            return ERR_FULL;
        }
        tokens[tokensHeld] = t;
        tokensHeld++;
        forgetParse();
        return tokensHeld;
    }

    public void clearInput() {
        tokensHeld = 0;
        forgetParse();
    }

    public int inputLength() {
        return tokensHeld;
    }

    public int inputToken(int i) {
        if (i < 0 || i >= tokensHeld) {
            return NONE;
        }
        return tokens[i];
    }

    public int parse() {
        forgetParse();
        setUnitLevels();
        for (int length = 1; length <= tokensHeld; length++) {
            for (int s = 0; s + length <= tokensHeld; s++) {
                countSpan(s, s + length);
            }
        }
        storedCount = tokensHeld == 0 ? 0 : symbolTrees(START_SYMBOL, 0, tokensHeld);
        parsed = true;
        return storedCount;
    }

    public int count() {
        return parsed ? storedCount : ERR_STATE;
    }

    public int selectTree(int rank) {
        if (!parsed) {
            return ERR_STATE;
        }
        if (storedCount >= CAP || rank < 0 || rank >= storedCount) {
            return ERR_RANGE;
        }
        nodes = 0;
        tails = 0;
        openNode(START_SYMBOL, 0, tokensHeld, rank, 0);
        // Each turn makes one part of the tree and at most one more tail, so no index outgrows the parts.
        for (int part = 1; part < MAX_PARTS && tails > 0; part++) {
            takeSymbol();
        }
        chosenRank = rank;
        return nodes;
    }

    public int selectedRank() {
        return chosenRank;
    }

    public int nodeRule(int k) {
        return isNode(k) ? ruleOfNode[k] : NONE;
    }

    public int nodeStart(int k) {
        return isNode(k) ? startOfNode[k] : NONE;
    }

    public int nodeEnd(int k) {
        return isNode(k) ? endOfNode[k] : NONE;
    }

    public int nodeDepth(int k) {
        return isNode(k) ? depthOfNode[k] : NONE;
    }

    private static int clampKinds(int wanted) {
        if (wanted < 1) {
            return 1;
        }
        return wanted > MAX_KINDS ? MAX_KINDS : wanted;
    }

    private boolean isNonterminal(int code) {
        return code >= 0 && code < nonterminals;
    }

    private boolean isSymbol(int code) {
        return isNonterminal(code) || (code >= TERMINAL_BASE && code < TERMINAL_BASE + terminals);
    }

    private boolean isRuleForm(int lhs, int a, int b, int c) {
        if (!isNonterminal(lhs) || !isSymbol(a)) {
            return false;
        }
        if (b == NONE) {
            return c == NONE;
        }
        return isSymbol(b) && (c == NONE || isSymbol(c));
    }

    private boolean isUnitRule(int r) {
        int base = r * RULE_WIDTH;
        return ruleCells[base + 1] < TERMINAL_BASE && ruleCells[base + 2] == NONE;
    }

    private boolean closesUnitCycle(int lhs, int a) {
        if (!isNonterminal(a)) {
            return false;
        }
        int corners = cornersFrom(a, true);
        return holds(corners, lhs);
    }

    /** The codes, one bit each, that stand at the left corner of a, itself among them. */
    private int cornersFrom(int a, boolean unitRulesOnly) {
        int corners = 1 << a;
        // A chain without a repeated symbol takes no more steps than there are nonterminals.
        for (int step = 0; step < nonterminals; step++) {
            for (int r = 0; r < rulesHeld; r++) {
                int base = r * RULE_WIDTH;
                if (holds(corners, ruleCells[base]) && (!unitRulesOnly || isUnitRule(r))) {
                    corners |= 1 << ruleCells[base + 1];
                }
            }
        }
        return corners;
    }

    private static boolean holds(int codes, int code) {
        return ((codes >> code) & 1) != 0;
    }

    private boolean isNode(int k) {
        return k >= 0 && k < nodes;
    }

    private void forgetParse() {
        parsed = false;
        chosenRank = NONE;
        nodes = 0;
    }

    /** A nonterminal's level is the length of the longest chain of unit rules that starts at it. */
    private void setUnitLevels() {
        for (int x = 0; x < nonterminals; x++) {
            unitLevel[x] = 0;
        }
        for (int round = 1; round < nonterminals; round++) {
            for (int r = 0; r < rulesHeld; r++) {
                if (isUnitRule(r)) {
                    int base = r * RULE_WIDTH;
                    int least = unitLevel[ruleCells[base + 1]] + 1;
                    if (unitLevel[ruleCells[base]] < least) {
                        unitLevel[ruleCells[base]] = least;
                    }
                }
            }
        }
    }

    /** Counts the trees of every nonterminal over [s, e); all shorter spans are counted before. */
    private void countSpan(int s, int e) {
        // By level, since a unit rule needs the count of its child over the very same span.
        for (int level = 0; level < nonterminals; level++) {
            for (int x = 0; x < nonterminals; x++) {
                if (unitLevel[x] == level) {
                    countCell(x, s, e);
                }
            }
        }
    }

    private void countCell(int x, int s, int e) {
        int sum = 0;
        for (int r = 0; r < rulesHeld; r++) {
            if (ruleCells[r * RULE_WIDTH] == x) {
                int more = tailTrees(r, 1, s, e);
                sum = cappedSum(sum, more, 1);
            }
        }
        trees[(x * EDGES + s) * EDGES + e] = sum;
    }

    /** In how many ways the symbols of rule r from a place on cover [s, e). */
    private int tailTrees(int r, int place, int s, int e) {
        for (int edge = s; edge < e; edge++) {
            ways[edge] = 0;
        }
        ways[e] = 1;
        for (int p = LAST_PLACE; p >= place; p--) {
            int x = ruleCells[r * RULE_WIDTH + p];
            if (x != NONE) {
                putBefore(x, s, e);
            }
        }
        return ways[s];
    }

    /** Turns the ways from each edge to e into the ways that begin with symbol x. */
    private void putBefore(int x, int s, int e) {
        // Upwards: an edge needs the old ways of the later edges alone.
        for (int edge = s; edge <= e; edge++) {
            int sum = 0;
            for (int next = edge + 1; next <= e; next++) {
                if (ways[next] > 0) {
                    int first = symbolTrees(x, edge, next);
                    sum = cappedSum(sum, first, ways[next]);
                }
            }
            ways[edge] = sum;
        }
    }

    private int symbolTrees(int x, int s, int e) {
        if (x < TERMINAL_BASE) {
            return trees[(x * EDGES + s) * EDGES + e];
        }
        return e - s == 1 && tokens[s] == x - TERMINAL_BASE ? 1 : 0;
    }

    /** sum + a * b, saturated at CAP; in long, for a product of two counts outgrows an int. */
    private static int cappedSum(int sum, int a, int b) {
        long exact = sum + (long) a * b;
        return exact < CAP ? (int) exact : CAP;
    }

    /** Adds the root of the tree of that rank among the trees of x over [s, e). */
    private void openNode(int x, int s, int e, int rank, int depth) {
        int before = rank;
        for (int r = 0; r < rulesHeld; r++) {
            if (ruleCells[r * RULE_WIDTH] == x) {
                int own = tailTrees(r, 1, s, e);
                if (before < own) {
                    ruleOfNode[nodes] = r;
                    startOfNode[nodes] = s;
                    endOfNode[nodes] = e;
                    depthOfNode[nodes] = depth;
                    nodes++;
                    pushTail(r, 1, s, e, before, depth + 1);
                    return;
                }
                before -= own;
            }
        }
    }

    private void pushTail(int r, int place, int s, int e, int rank, int depth) {
        tailRule[tails] = r;
        tailPlace[tails] = place;
        tailStart[tails] = s;
        tailEnd[tails] = e;
        tailRank[tails] = rank;
        tailDepth[tails] = depth;
        tails++;
    }

    /**
     * Fixes the first symbol of the newest tail. The order of trees asks for its length first, then
     * for its own tree, and only then for the lengths and trees of the symbols behind it.
     */
    private void takeSymbol() {
        tails--;
        int r = tailRule[tails];
        int place = tailPlace[tails];
        int s = tailStart[tails];
        int e = tailEnd[tails];
        int depth = tailDepth[tails];
        int before = tailRank[tails];
        int x = ruleCells[r * RULE_WIDTH + place];
        for (int middle = s + 1; middle <= e; middle++) {
            int first = symbolTrees(x, s, middle);
            int rest = first == 0 ? 0 : tailTrees(r, place + 1, middle, e);
            if (rest > 0 && before / rest < first) {
                if (middle < e) {
                    pushTail(r, place + 1, middle, e, before % rest, depth);
                }
                if (x < TERMINAL_BASE) {
                    openNode(x, s, middle, before / rest, depth);
                }
                return;
            }
            before -= first * rest;
        }
    }
}

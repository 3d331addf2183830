import java.util.Random;
import java.util.function.ToIntFunction;

/** The boundary cases of "What it is" that hold before any parse, and of promise 1, sentence by sentence. */
public final class BoundaryStartTest {
    private static final int NONE = LeftCorner.NONE;
    private static final int ERR_SYMBOL = LeftCorner.ERR_SYMBOL;
    private static final int[] FAR = {
        Integer.MIN_VALUE, Integer.MIN_VALUE + 8, -65536, -256, -32, -24, -9, -8, -7, -1,
        16, 17, 24, 31, 32, 33, 40, 64, 256, 264, 65536, 65544, Integer.MAX_VALUE - 7, Integer.MAX_VALUE
    };

    public static void main(String[] args) {
        Check.sentence("Symbols: Nonterminal k (0 <= k < NT) has code k.", BoundaryStartTest::nonterminalCodes);
        Check.sentence("Symbols: Terminal t (0 <= t < T) has code TERMINAL_BASE + t.",
            BoundaryStartTest::terminalCodes);
        Check.sentence("Symbols: every other int (negative values) is not valid.", BoundaryStartTest::negativeCodes);
        Check.sentence("Symbols: every other int (NONE) is not valid.", BoundaryStartTest::noneIsNoCode);
        Check.sentence("Symbols: every other int (codes NT..TERMINAL_BASE-1) is not valid.",
            BoundaryStartTest::codesBetween);
        Check.sentence("Symbols: every other int (codes at or above TERMINAL_BASE + T) is not valid.",
            BoundaryStartTest::codesAbove);
        Check.sentence("Symbols: Nonterminal 0 is the start symbol.", BoundaryStartTest::startSymbol);
        Check.sentence("Symbols: Input tokens are given as terminal numbers t, not codes.",
            BoundaryStartTest::tokensAreNumbers);
        Check.sentence("Rules: lhs a nonterminal and 1 <= m <= 3 valid symbols.", BoundaryStartTest::lengthsOfRules);
        Check.sentence("Rules: numbered 0, 1, 2, .. in the order they were accepted.",
            BoundaryStartTest::refusedRulesTakeNoNumber);
        Check.sentence("Rules: Identical rules may be added; they count as different rules.",
            BoundaryStartTest::identicalRules);
        Check.sentence("Rules: The rule set never holds a unit cycle.", BoundaryStartTest::neverAUnitCycle);
        Check.sentence("State: Rules (at most MAX_RULES).", BoundaryStartTest::mostRules);
        Check.sentence("State: input (at most MAX_INPUT tokens).", BoundaryStartTest::mostTokens);
        Check.sentence("State: Every refused call changes nothing.", BoundaryStartTest::refusedCalls);
        Check.sentence("1: LeftCorner(int nonterminals, int terminals) never fails.", BoundaryStartTest::neverFails);
        Check.sentence("1: a value below the least becomes the least.", BoundaryStartTest::tooSmall);
        Check.sentence("1: a value above the greatest becomes the greatest.", BoundaryStartTest::tooLarge);
        Check.sentence("1: any value in range is kept.", BoundaryStartTest::inRange);
        Check.sentence("1: This holds for every int, including Integer.MIN_VALUE and Integer.MAX_VALUE.",
            BoundaryStartTest::extremes);
        Check.sentence("1: NT and T never change afterwards.", BoundaryStartTest::sizesStay);
        Check.sentence("1: A fresh object has no rules (ruleCount() = 0).", BoundaryStartTest::freshRules);
        Check.sentence("1: A fresh object has empty input (inputLength() = 0).", BoundaryStartTest::freshInput);
        Check.sentence("1: A fresh object is not parsed (count() answers ERR_STATE).", BoundaryStartTest::freshCount);
        Check.sentence("1: A fresh object has no selection (selectedRank() answers NONE).",
            BoundaryStartTest::freshRank);
        Check.sentence("1: A fresh object has no selection (every node getter answers NONE).",
            BoundaryStartTest::freshNodes);
        Check.finish();
    }

    private static int lone(int nonterminals, int terminals, int lhs, int a, int b, int c) {
        return new LeftCorner(nonterminals, terminals).addRule(lhs, a, b, c);
    }

    private static void nonterminalCodes() {
        for (int nt = 1; nt <= 8; nt++) {
            for (int k = 0; k < nt; k++) {
                Check.due("lhs " + k + " of " + nt, lone(nt, 1, k, 8, NONE, NONE), 0);
                Check.due("first " + k + " of " + nt, lone(nt, 1, 0, k, 8, NONE), 0);
                Check.due("second " + k + " of " + nt, lone(nt, 1, 0, 8, k, NONE), 0);
                Check.due("third " + k + " of " + nt, lone(nt, 1, 0, 8, 8, k), 0);
                Check.due("link to " + k + " of " + nt, new LeftCorner(nt, 1).isLeftCorner(k, k), true);
            }
        }
    }

    private static void terminalCodes() {
        for (int t = 0; t < 8; t++) {
            for (int token = 0; token < 8; token++) {
                LeftCorner x = new LeftCorner(1, 8);
                Grammars.rule(x, 0, LeftCorner.TERMINAL_BASE + t);
                Grammars.tokens(x, token);
                Check.due("terminal " + t + " over token " + token, x.parse(), t == token ? 1 : 0);
            }
        }
    }

    private static void isNoCode(int nt, int t, int code) {
        String what = code + " of " + nt + " and " + t;
        Check.due("lhs " + what, lone(nt, t, code, 8, NONE, NONE), ERR_SYMBOL);
        Check.due("first " + what, lone(nt, t, 0, code, 8, NONE), ERR_SYMBOL);
        Check.due("only " + what, lone(nt, t, 0, code, NONE, NONE), ERR_SYMBOL);
        if (code != NONE) {
            Check.due("second " + what, lone(nt, t, 0, 8, code, NONE), ERR_SYMBOL);
            Check.due("second of three " + what, lone(nt, t, 0, 8, code, 8), ERR_SYMBOL);
            Check.due("third " + what, lone(nt, t, 0, 8, 8, code), ERR_SYMBOL);
        }
        LeftCorner x = new LeftCorner(nt, t);
        Check.due("link from " + what, x.isLeftCorner(code, 0), false);
        Check.due("link to " + what, x.isLeftCorner(0, code), false);
        Check.due("link at " + what, x.isLeftCorner(code, code), false);
    }

    private static void negativeCodes() {
        for (int size = 1; size <= 8; size++) {
            for (int code = -70; code < -1; code++) {
                isNoCode(size, 9 - size, code);
            }
            isNoCode(size, size, Integer.MIN_VALUE);
            isNoCode(size, size, Integer.MIN_VALUE + 8);
        }
    }

    private static void noneIsNoCode() {
        for (int size = 1; size <= 8; size++) {
            isNoCode(size, size, NONE);
        }
    }

    private static void codesBetween() {
        for (int nt = 1; nt < 8; nt++) {
            for (int t = 1; t <= 8; t++) {
                for (int code = nt; code < LeftCorner.TERMINAL_BASE; code++) {
                    isNoCode(nt, t, code);
                }
            }
        }
    }

    private static void codesAbove() {
        for (int nt = 1; nt <= 8; nt++) {
            for (int t = 1; t <= 8; t++) {
                for (int code = LeftCorner.TERMINAL_BASE + t; code < 80; code++) {
                    isNoCode(nt, t, code);
                }
                isNoCode(nt, t, Integer.MAX_VALUE);
                isNoCode(nt, t, 1 << 30);
            }
        }
    }

    private static void startSymbol() {
        for (int k = 0; k < 8; k++) {
            LeftCorner x = new LeftCorner(8, 1);
            Grammars.rule(x, k, 8);
            Grammars.tokens(x, 0);
            Check.due("trees with " + k + " -> a alone", x.parse(), k == 0 ? 1 : 0);
        }
    }

    private static void tokensAreNumbers() {
        for (int t = 0; t < 8; t++) {
            LeftCorner x = new LeftCorner(8, 8);
            Check.due("addToken of the code", x.addToken(LeftCorner.TERMINAL_BASE + t), ERR_SYMBOL);
            Check.due("addToken(" + t + ")", x.addToken(t), 1);
            Check.due("inputToken(0)", x.inputToken(0), t);
        }
    }

    private static void lengthsOfRules() {
        Check.due("no symbol", lone(2, 2, 0, NONE, NONE, NONE), ERR_SYMBOL);
        Check.due("no first symbol of two", lone(2, 2, 0, NONE, 8, NONE), ERR_SYMBOL);
        Check.due("no first symbol of three", lone(2, 2, 0, NONE, 8, 8), ERR_SYMBOL);
        Check.due("one symbol", lone(2, 2, 0, 8, NONE, NONE), 0);
        Check.due("two symbols", lone(2, 2, 0, 8, 9, NONE), 0);
        Check.due("three symbols", lone(2, 2, 0, 8, 9, 1), 0);
    }

    private static void refusedRulesTakeNoNumber() {
        LeftCorner x = new LeftCorner(2, 1);
        for (int r = 0; r < LeftCorner.MAX_RULES; r++) {
            Check.due("symbol", x.addRule(0, 9, NONE, NONE), ERR_SYMBOL);
            Check.due("cycle", x.addRule(1, 1, NONE, NONE), LeftCorner.ERR_CYCLE);
            Check.due("rule " + r, x.addRule(r % 2, 8, r % 2, NONE), r);
        }
        for (int r = 0; r < LeftCorner.MAX_RULES; r++) {
            Check.due("lhs of rule " + r, x.ruleSymbol(r, 0), r % 2);
        }
    }

    private static void identicalRules() {
        LeftCorner x = new LeftCorner(1, 1);
        Grammars.tokens(x, 0);
        for (int r = 0; r < LeftCorner.MAX_RULES; r++) {
            Grammars.rule(x, 0, 8);
            Check.due("trees by " + (r + 1) + " copies", x.parse(), r + 1);
            Check.due("selectTree(" + r + ")", x.selectTree(r), 1);
            Check.due("its rule", x.nodeRule(0), r);
        }
    }

    /** Asks for every unit rule, in many orders; what is held must then lead nowhere back. */
    private static void neverAUnitCycle() {
        Random random = new Random(5);
        for (int run = 0; run < 300; run++) {
            LeftCorner x = new LeftCorner(8, 1);
            int[] held = new int[8];
            for (int call = 0; call < 200; call++) {
                int lhs = random.nextInt(8);
                int a = random.nextInt(8);
                if (x.addRule(lhs, a, NONE, NONE) >= 0) {
                    held[lhs] |= 1 << a;
                }
            }
            Check.due("rules held", x.ruleCount(), LeftCorner.MAX_RULES);
            Check.due("nonterminals on a unit cycle", onCycles(held), 0);
        }
    }

    private static int onCycles(int[] held) {
        int[] reached = held.clone();
        for (int middle = 0; middle < 8; middle++) {
            for (int from = 0; from < 8; from++) {
                if ((reached[from] >> middle & 1) != 0) {
                    reached[from] |= reached[middle];
                }
            }
        }
        int onCycles = 0;
        for (int k = 0; k < 8; k++) {
            onCycles += reached[k] >> k & 1;
        }
        return onCycles;
    }

    private static void mostRules() {
        LeftCorner x = new LeftCorner(8, 8);
        for (int r = 0; r < 100; r++) {
            x.addRule(r % 8, 8 + r % 8, 8, 15);
            Check.due("ruleCount()", x.ruleCount(), Math.min(r + 1, 24));
        }
    }

    private static void mostTokens() {
        LeftCorner x = new LeftCorner(8, 8);
        for (int i = 0; i < 100; i++) {
            x.addToken(i % 8);
            Check.due("inputLength()", x.inputLength(), Math.min(i + 1, 12));
        }
    }

    private static void refusedCalls() {
        refused("addRule(2, 8, -1, -1)", x -> x.addRule(2, 8, NONE, NONE));
        refused("addRule(1, 1, -1, -1)", x -> x.addRule(1, 1, NONE, NONE));
        refused("addRule when full", x -> x.ruleCount() == 24 ? x.addRule(0, 8, NONE, NONE) : NONE);
        refused("addToken(2)", x -> x.addToken(2));
        refused("addToken when full", x -> x.inputLength() == 12 ? x.addToken(0) : NONE);
        refused("selectTree(-1)", x -> x.selectTree(-1));
        refused("selectTree(CAP)", x -> x.selectTree(LeftCorner.CAP));
    }

    private static void refused(String call, ToIntFunction<LeftCorner> made) {
        Situations.changesNothing(call, x -> Check.due(call + " is refused", made.applyAsInt(x) < 0, true));
    }

    private static void neverFails() {
        Random random = new Random(1);
        for (int run = 0; run < 2000; run++) {
            LeftCorner x = new LeftCorner(random.nextInt(), random.nextInt());
            Check.due("ruleCount()", x.ruleCount(), 0);
        }
        for (int one : FAR) {
            for (int other : FAR) {
                Check.due("ruleCount()", new LeftCorner(one, other).ruleCount(), 0);
            }
        }
    }

    private static void sizesAre(int nonterminals, int terminals, int nt, int t) {
        sizesOf("new (" + nonterminals + ", " + terminals + ")", new LeftCorner(nonterminals, terminals), nt, t);
    }

    /** Reads the sizes by the codes that the links and the tokens take. */
    private static void sizesOf(String who, LeftCorner x, int nt, int t) {
        for (int k = 0; k < 8; k++) {
            Check.due(who + ", nonterminal " + k, x.isLeftCorner(k, k), k < nt);
        }
        x.clearInput();
        for (int token = 0; token < 10; token++) {
            Check.due(who + ", token " + token, x.addToken(token), token < t ? token + 1 : ERR_SYMBOL);
        }
        Check.due(who + ", terminal T", x.addRule(0, LeftCorner.TERMINAL_BASE + t, NONE, NONE), ERR_SYMBOL);
        Check.due(who + ", nonterminal NT", x.addRule(nt, 8, NONE, NONE), ERR_SYMBOL);
        int held = x.ruleCount();
        int last = x.addRule(nt - 1, LeftCorner.TERMINAL_BASE + t - 1, NONE, NONE);
        Check.due(who + ", the last of both", last, held < 24 ? held : LeftCorner.ERR_FULL);
    }

    private static void tooSmall() {
        for (int value = -40; value < 1; value++) {
            sizesAre(value, 5, 1, 5);
            sizesAre(5, value, 5, 1);
            sizesAre(value, value, 1, 1);
        }
    }

    private static void tooLarge() {
        for (int value = 9; value < 80; value++) {
            sizesAre(value, 5, 8, 5);
            sizesAre(5, value, 5, 8);
            sizesAre(value, value, 8, 8);
        }
    }

    private static void inRange() {
        for (int nt = 1; nt <= 8; nt++) {
            for (int t = 1; t <= 8; t++) {
                sizesAre(nt, t, nt, t);
            }
        }
    }

    private static void extremes() {
        int[] small = {Integer.MIN_VALUE, Integer.MIN_VALUE + 1, Integer.MIN_VALUE + 3, -65533, -253};
        int[] large = {Integer.MAX_VALUE, Integer.MAX_VALUE - 2, 1 << 30, (1 << 30) + 3, 65539, 259};
        for (int one : small) {
            sizesAre(one, 3, 1, 3);
            sizesAre(3, one, 3, 1);
            for (int other : large) {
                sizesAre(one, other, 1, 8);
                sizesAre(other, one, 8, 1);
                sizesAre(other, 3, 8, 3);
                sizesAre(3, other, 3, 8);
            }
        }
    }

    private static void sizesStay() {
        for (int which = 0; which < Situations.NUMBER; which++) {
            LeftCorner x = Situations.make(which);
            x.addRule(7, 15, 7, 15);
            x.addToken(7);
            x.isLeftCorner(7, 15);
            x.parse();
            sizesOf(Situations.name(which), x, Situations.NONTERMINALS, Situations.TERMINALS);
        }
    }

    private static void freshRules() {
        LeftCorner x = new LeftCorner(8, 8);
        Check.due("ruleCount()", x.ruleCount(), 0);
        for (int pos = -1; pos <= 4; pos++) {
            Check.due("ruleSymbol(0, " + pos + ")", x.ruleSymbol(0, pos), NONE);
        }
    }

    private static void freshInput() {
        LeftCorner x = new LeftCorner(8, 8);
        Check.due("inputLength()", x.inputLength(), 0);
        for (int i = -1; i <= 12; i++) {
            Check.due("inputToken(" + i + ")", x.inputToken(i), NONE);
        }
    }

    private static void freshCount() {
        LeftCorner x = new LeftCorner(1, 1);
        Check.due("count()", x.count(), LeftCorner.ERR_STATE);
        Check.due("selectTree(0)", x.selectTree(0), LeftCorner.ERR_STATE);
        Check.due("count() again", x.count(), LeftCorner.ERR_STATE);
    }

    private static void freshRank() {
        Check.due("selectedRank()", new LeftCorner(1, 1).selectedRank(), NONE);
        Check.due("selectedRank()", new LeftCorner(8, 8).selectedRank(), NONE);
    }

    private static void freshNodes() {
        LeftCorner x = new LeftCorner(8, 8);
        for (int k = -2; k < 200; k++) {
            noneAt(x, k);
        }
        for (int k : FAR) {
            noneAt(x, k);
        }
    }

    private static void noneAt(LeftCorner x, int k) {
        Check.due("nodeRule(" + k + ")", x.nodeRule(k), NONE);
        Check.due("nodeStart(" + k + ")", x.nodeStart(k), NONE);
        Check.due("nodeEnd(" + k + ")", x.nodeEnd(k), NONE);
        Check.due("nodeDepth(" + k + ")", x.nodeDepth(k), NONE);
    }
}

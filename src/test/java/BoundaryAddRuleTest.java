import java.util.List;
import java.util.function.Consumer;

/** The boundary cases of promise 2, addRule, sentence by sentence. */
public final class BoundaryAddRuleTest {
    private static final int NONE = LeftCorner.NONE;
    private static final int ERR_SYMBOL = LeftCorner.ERR_SYMBOL;
    private static final int ERR_FULL = LeftCorner.ERR_FULL;
    private static final int ERR_CYCLE = LeftCorner.ERR_CYCLE;

    /** No code of an object with three nonterminals and two terminals, nor NONE. */
    private static final int[] WRONG = {
        Integer.MIN_VALUE, Integer.MIN_VALUE + 8, -32, -24, -8, -6, -5, -4, -3, -2, 3, 4, 5, 6, 7, 10, 11, 12, 13, 14,
        15, 16, 24, 32, 33, 40, 41, 256, 264, 65536, 65544, Integer.MAX_VALUE
    };
    private static final int[] RIGHT = {0, 1, 2, 8, 9};

    public static void main(String[] args) {
        Check.sentence("2: b = NONE means m = 1.", BoundaryAddRuleTest::oneSymbol);
        Check.sentence("2: c = NONE with b given means m = 2.", BoundaryAddRuleTest::twoSymbols);
        Check.sentence("2: otherwise m = 3.", BoundaryAddRuleTest::threeSymbols);
        Check.sentence("2.1: lhs is not a nonterminal code below NT: answers ERR_SYMBOL.",
            BoundaryAddRuleTest::wrongLhs);
        Check.sentence("2.1: a is not valid: answers ERR_SYMBOL.", BoundaryAddRuleTest::wrongFirst);
        Check.sentence("2.1: b is neither NONE nor valid: answers ERR_SYMBOL.", BoundaryAddRuleTest::wrongSecond);
        Check.sentence("2.1: c is neither NONE nor valid: answers ERR_SYMBOL.", BoundaryAddRuleTest::wrongThird);
        Check.sentence("2.1: b = NONE and c != NONE: answers ERR_SYMBOL.", BoundaryAddRuleTest::gap);
        Check.sentence("2.2: MAX_RULES rules are held: answers ERR_FULL.", BoundaryAddRuleTest::full);
        Check.sentence("2.3: a = lhs: answers ERR_CYCLE.", BoundaryAddRuleTest::selfCycle);
        Check.sentence("2.3: a -> lhs directly: answers ERR_CYCLE.", BoundaryAddRuleTest::directCycle);
        Check.sentence("2.3: a -> Y1, Y1 -> Y2, .., Yk -> lhs: answers ERR_CYCLE.", BoundaryAddRuleTest::longCycle);
        Check.sentence("2.3: through a chain of held unit rules (alone).", BoundaryAddRuleTest::chainsOfOtherRules);
        Check.sentence("2.3: m = 1 (alone).", BoundaryAddRuleTest::longerRulesCloseNoCycle);
        Check.sentence("2: the first that holds decides (1 before 2).", BoundaryAddRuleTest::symbolBeforeFull);
        Check.sentence("2: the first that holds decides (2 before 3).", BoundaryAddRuleTest::fullBeforeCycle);
        Check.sentence("2: the first that holds decides (1 before 3).", BoundaryAddRuleTest::symbolBeforeCycle);
        Check.sentence("2: A refusal changes nothing (ERR_SYMBOL).", BoundaryAddRuleTest::symbolRefusal);
        Check.sentence("2: A refusal changes nothing (ERR_FULL).", BoundaryAddRuleTest::fullRefusal);
        Check.sentence("2: A refusal changes nothing (ERR_CYCLE).", BoundaryAddRuleTest::cycleRefusal);
        Check.sentence("2: the rule is stored with number ruleCount() (as it was before the call).",
            BoundaryAddRuleTest::storedAtTheEnd);
        Check.sentence("2: ruleCount() grows by one.", BoundaryAddRuleTest::growsByOne);
        Check.sentence("2: the PARSED flag is cleared.", BoundaryAddRuleTest::clearsParsed);
        Check.sentence("2: any selection is cleared.", BoundaryAddRuleTest::clearsSelection);
        Check.sentence("2: that number (0..MAX_RULES-1) is answered.", BoundaryAddRuleTest::answersTheNumber);
        Check.sentence("2: A rule with m = 1 whose symbol is a terminal is never a unit rule.",
            BoundaryAddRuleTest::terminalsAreNoUnitRules);
        Check.sentence("2: and is never refused for a cycle.", BoundaryAddRuleTest::terminalsCloseNoCycle);
        Check.sentence("2: An identical copy of a held rule is accepted.", BoundaryAddRuleTest::copies);
        Check.sentence("2: (subject to the conditions above).", BoundaryAddRuleTest::copyInAFullTable);
        Check.sentence("2: and counts as a different rule.", BoundaryAddRuleTest::copiesAreDifferent);
        Check.sentence("2: Earlier rules keep their numbers and symbols.", BoundaryAddRuleTest::earlierRulesStay);
        Check.sentence("2: the input is unchanged.", BoundaryAddRuleTest::inputStays);
        Check.finish();
    }

    private static LeftCorner fresh() {
        return new LeftCorner(3, 2);
    }

    private static void due(LeftCorner x, int lhs, int a, int b, int c, int want) {
        Check.due("addRule(" + lhs + ", " + a + ", " + b + ", " + c + ")", x.addRule(lhs, a, b, c), want);
    }

    private static void unit(LeftCorner x, int lhs, int a, int want) {
        due(x, lhs, a, NONE, NONE, want);
    }

    private static void symbolsAre(LeftCorner x, int r, int lhs, int a, int b, int c) {
        int[] want = {lhs, a, b, c};
        for (int pos = 0; pos < 4; pos++) {
            Check.due("ruleSymbol(" + r + ", " + pos + ")", x.ruleSymbol(r, pos), want[pos]);
        }
    }

    private static LeftCorner fullTable() {
        LeftCorner x = fresh();
        Grammars.rule(x, 0, 1);
        Grammars.copies(x, 23, 1, 8);
        return x;
    }

    private static void trees(LeftCorner x, int... wantOverLength) {
        for (int n = 1; n <= wantOverLength.length; n++) {
            Grammars.tokens(x, 0);
            Check.due("trees over " + n + " tokens", x.parse(), wantOverLength[n - 1]);
        }
    }

    private static void oneSymbol() {
        LeftCorner x = fresh();
        due(x, 0, 8, NONE, NONE, 0);
        symbolsAre(x, 0, 0, 8, NONE, NONE);
        trees(x, 1, 0, 0, 0);
    }

    private static void twoSymbols() {
        LeftCorner x = fresh();
        due(x, 0, 8, 8, NONE, 0);
        symbolsAre(x, 0, 0, 8, 8, NONE);
        trees(x, 0, 1, 0, 0);
    }

    private static void threeSymbols() {
        LeftCorner x = fresh();
        due(x, 0, 8, 8, 8, 0);
        symbolsAre(x, 0, 0, 8, 8, 8);
        trees(x, 0, 0, 1, 0);
    }

    private static void wrongLhs() {
        for (int nt = 1; nt <= 8; nt++) {
            LeftCorner x = new LeftCorner(nt, 8);
            unit(x, NONE, 8, ERR_SYMBOL);
            for (int lhs = nt; lhs < 20; lhs++) {
                unit(x, lhs, 8, ERR_SYMBOL);
                due(x, lhs, 8, 15, 8, ERR_SYMBOL);
            }
            unit(x, nt - 1, 8, 0);
        }
        for (int lhs : WRONG) {
            due(fresh(), lhs, 8, 9, NONE, ERR_SYMBOL);
        }
    }

    private static void wrongFirst() {
        unit(fresh(), 0, NONE, ERR_SYMBOL);
        due(fresh(), 0, NONE, 8, NONE, ERR_SYMBOL);
        due(fresh(), 0, NONE, 8, 8, ERR_SYMBOL);
        for (int a : WRONG) {
            unit(fresh(), 0, a, ERR_SYMBOL);
            due(fresh(), 0, a, 8, NONE, ERR_SYMBOL);
            due(fresh(), 0, a, 8, 8, ERR_SYMBOL);
        }
        for (int a : RIGHT) {
            due(fresh(), 0, a, 8, NONE, 0);
        }
    }

    private static void wrongSecond() {
        for (int b : WRONG) {
            due(fresh(), 0, 8, b, NONE, ERR_SYMBOL);
            due(fresh(), 0, 8, b, 8, ERR_SYMBOL);
        }
        for (int b : RIGHT) {
            due(fresh(), 0, 8, b, NONE, 0);
            due(fresh(), 0, 8, b, 8, 0);
        }
    }

    private static void wrongThird() {
        for (int c : WRONG) {
            due(fresh(), 0, 8, 8, c, ERR_SYMBOL);
        }
        for (int c : RIGHT) {
            due(fresh(), 0, 8, 8, c, 0);
        }
    }

    private static void gap() {
        for (int c : RIGHT) {
            due(fresh(), 0, 8, NONE, c, ERR_SYMBOL);
            due(fresh(), 0, 1, NONE, c, ERR_SYMBOL);
        }
        for (int c : WRONG) {
            due(fresh(), 0, 8, NONE, c, ERR_SYMBOL);
        }
    }

    private static void full() {
        LeftCorner x = new LeftCorner(8, 8);
        for (int r = 0; r < 24; r++) {
            unit(x, r % 8, 8, r);
        }
        for (int turn = 0; turn < 3; turn++) {
            unit(x, 0, 8, ERR_FULL);
            unit(x, 0, 1, ERR_FULL);
            due(x, 7, 8, 15, NONE, ERR_FULL);
            due(x, 7, 15, 7, 0, ERR_FULL);
            x.clearInput();
            x.parse();
        }
        Check.due("ruleCount()", x.ruleCount(), 24);
    }

    private static void selfCycle() {
        for (int nt = 1; nt <= 8; nt++) {
            LeftCorner x = new LeftCorner(nt, 1);
            for (int k = 0; k < nt; k++) {
                unit(x, k, k, ERR_CYCLE);
            }
            Check.due("ruleCount()", x.ruleCount(), 0);
        }
    }

    private static void directCycle() {
        for (int lhs = 0; lhs < 8; lhs++) {
            for (int a = 0; a < 8; a++) {
                if (a != lhs) {
                    LeftCorner x = new LeftCorner(8, 1);
                    unit(x, a, lhs, 0);
                    unit(x, lhs, a, ERR_CYCLE);
                    unit(x, a, lhs, 1);
                }
            }
        }
    }

    /** Chains of every length up to the longest, their rules added from the top, from the bottom and mixed. */
    private static void longCycle() {
        int[][] orders = {{0, 1, 2, 3, 4, 5, 6}, {6, 5, 4, 3, 2, 1, 0}, {3, 0, 6, 1, 5, 2, 4}};
        int[] names = {5, 2, 7, 0, 3, 6, 1, 4};
        for (int[] order : orders) {
            for (int length = 2; length <= 7; length++) {
                LeftCorner x = new LeftCorner(8, 1);
                for (int k : order) {
                    if (k < length) {
                        Grammars.rule(x, names[k], names[k + 1]);
                    }
                }
                unit(x, names[length], names[0], ERR_CYCLE);
                unit(x, names[0], names[length], length);
                unit(x, names[length], names[0], ERR_CYCLE);
            }
        }
    }

    private static void chainsOfOtherRules() {
        LeftCorner two = fresh();
        Grammars.rule(two, 1, 0, 8);
        unit(two, 0, 1, 1);
        LeftCorner three = fresh();
        Grammars.rule(three, 1, 0, 0, 0);
        unit(three, 0, 1, 1);
        LeftCorner second = fresh();
        Grammars.rule(second, 1, 8, 0);
        unit(second, 0, 1, 1);
        LeftCorner middle = fresh();
        Grammars.rule(middle, 1, 2);
        Grammars.rule(middle, 2, 0, 0);
        unit(middle, 0, 1, 2);
        LeftCorner aside = fresh();
        Grammars.rule(aside, 1, 2);
        unit(aside, 0, 2, 1);
        unit(aside, 0, 1, 2);
    }

    private static void longerRulesCloseNoCycle() {
        LeftCorner x = fresh();
        Grammars.rule(x, 1, 0);
        due(x, 0, 0, 0, NONE, 1);
        due(x, 0, 0, 8, NONE, 2);
        due(x, 0, 0, 0, 0, 3);
        due(x, 0, 1, 1, NONE, 4);
        due(x, 0, 1, 8, 1, 5);
        unit(x, 0, 1, ERR_CYCLE);
    }

    private static void symbolBeforeFull() {
        LeftCorner x = fullTable();
        for (int wrong : WRONG) {
            due(x, wrong, 8, NONE, NONE, ERR_SYMBOL);
            due(x, 0, wrong, NONE, NONE, ERR_SYMBOL);
            due(x, 0, 8, wrong, NONE, ERR_SYMBOL);
            due(x, 0, 8, 8, wrong, ERR_SYMBOL);
        }
        due(x, NONE, 8, NONE, NONE, ERR_SYMBOL);
        due(x, 0, NONE, NONE, NONE, ERR_SYMBOL);
        due(x, 0, 8, NONE, 8, ERR_SYMBOL);
    }

    private static void fullBeforeCycle() {
        LeftCorner x = fullTable();
        unit(x, 0, 0, ERR_FULL);
        unit(x, 1, 1, ERR_FULL);
        unit(x, 1, 0, ERR_FULL);
    }

    private static void symbolBeforeCycle() {
        LeftCorner x = fresh();
        Grammars.rule(x, 0, 1);
        due(x, 0, 0, NONE, 8, ERR_SYMBOL);
        due(x, 0, 0, NONE, 0, ERR_SYMBOL);
        due(x, 1, 0, NONE, 0, ERR_SYMBOL);
        due(x, 3, 3, NONE, NONE, ERR_SYMBOL);
        due(x, 8, 8, NONE, NONE, ERR_SYMBOL);
        due(x, NONE, NONE, NONE, NONE, ERR_SYMBOL);
    }

    private static void symbolRefusal() {
        Situations.changesNothing("addRule(2, 8, -1, -1)", x -> due(x, 2, 8, NONE, NONE, ERR_SYMBOL));
        Situations.changesNothing("addRule(0, -1, 8, 8)", x -> due(x, 0, NONE, 8, 8, ERR_SYMBOL));
        Situations.changesNothing("addRule(0, 8, 10, -1)", x -> due(x, 0, 8, 10, NONE, ERR_SYMBOL));
        Situations.changesNothing("addRule(0, 8, 8, 7)", x -> due(x, 0, 8, 8, 7, ERR_SYMBOL));
        Situations.changesNothing("addRule(0, 8, -1, 8)", x -> due(x, 0, 8, NONE, 8, ERR_SYMBOL));
    }

    private static void fullRefusal() {
        int[][] refused = {{0, 8, NONE, NONE}, {1, 9, 0, 1}, {1, 0, NONE, NONE}};
        for (int[] rule : refused) {
            Situations.changesNothing("addRule on a full table", x -> {
                if (x.ruleCount() == LeftCorner.MAX_RULES) {
                    due(x, rule[0], rule[1], rule[2], rule[3], ERR_FULL);
                }
            });
        }
        // Full, but without a selection or a parse.
        for (int parses = 0; parses < 2; parses++) {
            LeftCorner x = fullTable();
            LeftCorner twin = fullTable();
            Grammars.tokens(x, 0);
            Grammars.tokens(twin, 0);
            for (int i = 0; i < parses; i++) {
                Check.due("parse()", x.parse(), twin.parse());
            }
            unit(x, 0, 8, ERR_FULL);
            Situations.alike("full, " + parses + " parses", x, twin);
        }
    }

    private static void cycleRefusal() {
        Situations.changesNothing("addRule(1, 1, -1, -1)", x -> {
            if (x.ruleCount() < LeftCorner.MAX_RULES) {
                unit(x, 1, 1, ERR_CYCLE);
            }
        });
        Situations.changesNothing("addRule(1, 0, -1, -1)", x -> {
            if (x.ruleSymbol(1, 1) == 1 && x.ruleCount() < LeftCorner.MAX_RULES) {
                unit(x, 1, 0, ERR_CYCLE);
            }
        });
    }

    private static void storedAtTheEnd() {
        LeftCorner x = new LeftCorner(8, 8);
        for (int r = 0; r < 24; r++) {
            int before = x.ruleCount();
            Check.due("addRule", x.addRule(r % 8, 8 + r % 7, 8 + r % 5, r % 3), before);
            symbolsAre(x, before, r % 8, 8 + r % 7, 8 + r % 5, r % 3);
            symbolsAre(x, before + 1, NONE, NONE, NONE, NONE);
        }
    }

    private static void growsByOne() {
        LeftCorner x = fresh();
        for (int r = 0; r < 24; r++) {
            Check.due("ruleCount()", x.ruleCount(), r);
            Check.due("addRule", x.addRule(r % 3, 8, r % 2 == 0 ? NONE : 9, NONE), r);
            Check.due("ruleCount()", x.ruleCount(), r + 1);
        }
    }

    /** In every state that a rule more can meet, by rules of each length. */
    private static void afterEveryAddition(Consumer<LeftCorner> check) {
        int[][] added = {{1, 9, NONE, NONE}, {0, 1, NONE, NONE}, {0, 8, 0, NONE}, {1, 8, 8, 9}};
        for (int which = 0; which < Situations.NUMBER; which++) {
            for (int[] rule : added) {
                LeftCorner x = Situations.make(which);
                if (x.ruleCount() < LeftCorner.MAX_RULES) {
                    due(x, rule[0], rule[1], rule[2], rule[3], x.ruleCount());
                    check.accept(x);
                }
            }
        }
    }

    private static void clearsParsed() {
        afterEveryAddition(x -> {
            Check.due("count()", x.count(), LeftCorner.ERR_STATE);
            Check.due("selectTree(0)", x.selectTree(0), LeftCorner.ERR_STATE);
        });
    }

    private static void clearsSelection() {
        List<Integer> none = State.selection(fresh());
        afterEveryAddition(x -> Check.due("selection", State.selection(x), none));
    }

    private static void answersTheNumber() {
        LeftCorner x = fresh();
        for (int r = 0; r < 24; r++) {
            due(x, r % 3, 8 + r % 2, 9, NONE, r);
        }
        Check.due("the last number", x.ruleCount() - 1, LeftCorner.MAX_RULES - 1);
    }

    private static void terminalsAreNoUnitRules() {
        // Read as nonterminals, terminals 0 and 1 would lead back to the symbols they stand under.
        LeftCorner x = fresh();
        Grammars.rule(x, 1, 8);
        Grammars.rule(x, 2, 9);
        unit(x, 0, 1, 2);
        unit(x, 1, 2, 3);
        unit(x, 0, 2, 4);
        trees(x, 1);
        // Terminals that two rules share join no chain.
        LeftCorner y = fresh();
        Grammars.rule(y, 0, 8);
        Grammars.rule(y, 1, 8);
        unit(y, 0, 1, 2);
        trees(y, 2);
    }

    private static void terminalsCloseNoCycle() {
        LeftCorner x = new LeftCorner(8, 8);
        for (int k = 0; k < 7; k++) {
            Grammars.rule(x, k, k + 1);
        }
        for (int k = 0; k < 8; k++) {
            unit(x, k, LeftCorner.TERMINAL_BASE + k, 7 + 2 * k);
            unit(x, 7, LeftCorner.TERMINAL_BASE + k, 8 + 2 * k);
        }
    }

    private static void copies() {
        int[][] rules = {{0, 8, NONE, NONE}, {0, 1, NONE, NONE}, {0, 0, 0, NONE}, {2, 1, 9, 0}};
        for (int[] rule : rules) {
            LeftCorner x = fresh();
            for (int r = 0; r < 24; r++) {
                due(x, rule[0], rule[1], rule[2], rule[3], r);
                symbolsAre(x, r, rule[0], rule[1], rule[2], rule[3]);
            }
        }
    }

    private static void copyInAFullTable() {
        LeftCorner x = fullTable();
        unit(x, 0, 1, ERR_FULL);
        unit(x, 1, 8, ERR_FULL);
    }

    private static void copiesAreDifferent() {
        LeftCorner x = fresh();
        Grammars.copies(x, 3, 0, 1);
        Grammars.copies(x, 5, 1, 8);
        Grammars.copies(x, 2, 0, 1, 1);
        trees(x, 15, 50);
        for (int rank = 0; rank < 50; rank++) {
            Check.due("selectTree(" + rank + ")", x.selectTree(rank), 3);
            Check.due("nodeRule(0)", x.nodeRule(0), 8 + rank / 25);
            Check.due("nodeRule(1)", x.nodeRule(1), 3 + rank / 5 % 5);
            Check.due("nodeRule(2)", x.nodeRule(2), 3 + rank % 5);
        }
    }

    private static void earlierRulesStay() {
        LeftCorner x = new LeftCorner(8, 8);
        for (int r = 0; r < 24; r++) {
            Check.due("addRule", x.addRule(r % 8, 8 + r % 7, r % 3 == 0 ? NONE : r % 5, NONE), r);
            for (int old = 0; old <= r; old++) {
                symbolsAre(x, old, old % 8, 8 + old % 7, old % 3 == 0 ? NONE : old % 5, NONE);
            }
        }
    }

    private static void inputStays() {
        for (int n = 0; n <= 12; n++) {
            LeftCorner x = fresh();
            for (int i = 0; i < n; i++) {
                Grammars.tokens(x, i % 3 == 0 ? 1 : 0);
            }
            for (int r = 0; r < 24; r++) {
                due(x, r % 3, 8, 9, r % 3, r);
                Check.due("inputLength()", x.inputLength(), n);
                for (int i = 0; i < n; i++) {
                    Check.due("inputToken(" + i + ")", x.inputToken(i), i % 3 == 0 ? 1 : 0);
                }
            }
        }
    }
}

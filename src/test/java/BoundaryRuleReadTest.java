/** The boundary cases of promises 3 to 5, ruleCount, ruleSymbol and isLeftCorner, sentence by sentence. */
public final class BoundaryRuleReadTest {
    private static final int NONE = LeftCorner.NONE;

    /** Times four, or shifted by as much, many of these would be a number in range. */
    private static final int[] FAR = {
        Integer.MIN_VALUE, Integer.MIN_VALUE + 1, -(1 << 30), (1 << 30) - (1 << 31), -96, -32, -24, -4, -3, -2, -1,
        32, 40, 64, 96, 256, 65536, 1 << 29, 1 << 30, (1 << 30) + 1, Integer.MAX_VALUE - 3, Integer.MAX_VALUE
    };

    public static void main(String[] args) {
        Check.sentence("3: ruleCount() answers the number of rules held, 0..MAX_RULES.",
            BoundaryRuleReadTest::everyCount);
        Check.sentence("3: Changes nothing.", BoundaryRuleReadTest::countChangesNothing);
        Check.sentence("4: at pos 0 the lhs code.", BoundaryRuleReadTest::leftHandSide);
        Check.sentence("4: at pos 1..3 the code of right-hand symbol pos.", BoundaryRuleReadTest::rightHandSide);
        Check.sentence("4: or NONE if pos > m.", BoundaryRuleReadTest::behindTheRule);
        Check.sentence("4: It answers NONE if r is not in 0..ruleCount()-1.", BoundaryRuleReadTest::noSuchRule);
        Check.sentence("4: It answers NONE if pos is not in 0..3.", BoundaryRuleReadTest::noSuchPlace);
        Check.sentence("4: Changes nothing.", BoundaryRuleReadTest::symbolChangesNothing);
        Check.sentence("5: is the link relation over the rules held now.", BoundaryRuleReadTest::rulesHeldNow);
        Check.sentence("5: no parse is needed and the PARSED flag plays no part.",
            BoundaryRuleReadTest::withAndWithoutAParse);
        Check.sentence("5: a sequence a = S0, S1, .., Sk = b with k >= 0.", BoundaryRuleReadTest::everyLength);
        Check.sentence("5: some held rule has lhs Si and first right-hand symbol S(i+1).",
            BoundaryRuleReadTest::firstSymbolsAlone);
        Check.sentence("5: isLeftCorner(a, a) is true for every nonterminal a, even with no rules.",
            BoundaryRuleReadTest::itself);
        Check.sentence("5: It is false whenever a is not a nonterminal code below NT.",
            BoundaryRuleReadTest::wrongFrom);
        Check.sentence("5: (including every terminal code).", BoundaryRuleReadTest::fromTerminals);
        Check.sentence("5: or b is not valid.", BoundaryRuleReadTest::wrongTo);
        Check.sentence("5: Changes nothing.", BoundaryRuleReadTest::linkChangesNothing);
        Check.finish();
    }

    private static LeftCorner withRules(int number) {
        LeftCorner x = new LeftCorner(3, 3);
        for (int r = 0; r < number; r++) {
            Check.due("addRule", x.addRule(r % 3, 8 + r % 2, r % 3 == 0 ? NONE : 9, r % 3 == 2 ? 10 : NONE), r);
        }
        return x;
    }

    private static void everyCount() {
        for (int number = 0; number <= 24; number++) {
            LeftCorner x = withRules(number);
            Check.due("ruleCount()", x.ruleCount(), number);
            x.addRule(0, 0, NONE, NONE);
            x.addRule(3, 8, NONE, NONE);
            x.addToken(0);
            x.parse();
            x.clearInput();
            Check.due("ruleCount() after other calls", x.ruleCount(), number);
        }
        LeftCorner full = withRules(24);
        full.addRule(0, 8, NONE, NONE);
        Check.due("ruleCount() after a rule too many", full.ruleCount(), 24);
    }

    private static void countChangesNothing() {
        Situations.changesNothing("ruleCount()", LeftCorner::ruleCount);
    }

    private static void leftHandSide() {
        LeftCorner x = new LeftCorner(8, 1);
        for (int r = 0; r < 24; r++) {
            Check.due("addRule", x.addRule(7 - r % 8, 8, NONE, NONE), r);
        }
        for (int r = 0; r < 24; r++) {
            Check.due("ruleSymbol(" + r + ", 0)", x.ruleSymbol(r, 0), 7 - r % 8);
        }
    }

    private static void rightHandSide() {
        LeftCorner x = new LeftCorner(8, 8);
        for (int r = 0; r < 16; r++) {
            Check.due("addRule", x.addRule(7, r, 15 - r, (r + 5) % 16), r);
        }
        for (int r = 0; r < 16; r++) {
            Check.due("ruleSymbol(" + r + ", 1)", x.ruleSymbol(r, 1), r);
            Check.due("ruleSymbol(" + r + ", 2)", x.ruleSymbol(r, 2), 15 - r);
            Check.due("ruleSymbol(" + r + ", 3)", x.ruleSymbol(r, 3), (r + 5) % 16);
        }
    }

    private static void behindTheRule() {
        LeftCorner x = new LeftCorner(2, 1);
        for (int r = 0; r < 24; r++) {
            // Lengths 1, 2 and 3 by turns, so that a neighbour's symbol would show.
            Check.due("addRule", x.addRule(1, 8, r % 3 > 0 ? 0 : NONE, r % 3 > 1 ? 8 : NONE), r);
        }
        for (int r = 0; r < 24; r++) {
            Check.due("ruleSymbol(" + r + ", 1)", x.ruleSymbol(r, 1), 8);
            Check.due("ruleSymbol(" + r + ", 2)", x.ruleSymbol(r, 2), r % 3 > 0 ? 0 : NONE);
            Check.due("ruleSymbol(" + r + ", 3)", x.ruleSymbol(r, 3), r % 3 > 1 ? 8 : NONE);
        }
    }

    private static void noSuchRule() {
        for (int number = 0; number <= 24; number++) {
            LeftCorner x = withRules(number);
            for (int pos = 0; pos <= 3; pos++) {
                for (int r = number; r < 30; r++) {
                    Check.due("ruleSymbol(" + r + ", " + pos + ") of " + number, x.ruleSymbol(r, pos), NONE);
                }
                for (int r : FAR) {
                    Check.due("ruleSymbol(" + r + ", " + pos + ") of " + number, x.ruleSymbol(r, pos), NONE);
                }
            }
        }
        // A refused rule is no rule, wherever it may have been written.
        LeftCorner x = withRules(5);
        x.addRule(1, 1, NONE, NONE);
        x.addRule(1, 8, 9, 77);
        Check.due("ruleSymbol(5, 0) after refusals", x.ruleSymbol(5, 0), NONE);
        Check.due("ruleSymbol(5, 1) after refusals", x.ruleSymbol(5, 1), NONE);
    }

    private static void noSuchPlace() {
        LeftCorner x = withRules(24);
        for (int r = 0; r < 24; r++) {
            for (int pos = 4; pos < 100; pos++) {
                Check.due("ruleSymbol(" + r + ", " + pos + ")", x.ruleSymbol(r, pos), NONE);
                Check.due("ruleSymbol(" + r + ", " + (3 - pos) + ")", x.ruleSymbol(r, 3 - pos), NONE);
            }
            for (int pos : FAR) {
                Check.due("ruleSymbol(" + r + ", " + pos + ")", x.ruleSymbol(r, pos), NONE);
            }
        }
    }

    private static void symbolChangesNothing() {
        Situations.changesNothing("ruleSymbol(0, 0)", x -> x.ruleSymbol(0, 0));
        Situations.changesNothing("ruleSymbol(23, 3)", x -> x.ruleSymbol(23, 3));
        Situations.changesNothing("ruleSymbol(24, 0)", x -> x.ruleSymbol(24, 0));
        Situations.changesNothing("ruleSymbol(0, -1)", x -> x.ruleSymbol(0, -1));
    }

    private static void link(LeftCorner x, int a, int b, boolean want) {
        Check.due("isLeftCorner(" + a + ", " + b + ")", x.isLeftCorner(a, b), want);
    }

    private static void rulesHeldNow() {
        LeftCorner x = new LeftCorner(3, 2);
        link(x, 0, 1, false);
        Grammars.rule(x, 0, 1, 8);
        link(x, 0, 1, true);
        link(x, 0, 9, false);
        Grammars.rule(x, 2, 9);
        link(x, 0, 9, false);
        Check.due("refused", x.addRule(1, 2, NONE, 8), LeftCorner.ERR_SYMBOL);
        link(x, 0, 2, false);
        Grammars.rule(x, 1, 2);
        link(x, 0, 2, true);
        link(x, 0, 9, true);
        Check.due("refused", x.addRule(2, 1, NONE, NONE), LeftCorner.ERR_CYCLE);
        link(x, 2, 1, false);
        x.clearInput();
        link(x, 0, 9, true);
    }

    private static void withAndWithoutAParse() {
        LeftCorner x = new LeftCorner(2, 2);
        Grammars.rule(x, 0, 1, 9);
        Grammars.rule(x, 1, 8);
        for (int turn = 0; turn < 6; turn++) {
            link(x, 0, 1, true);
            link(x, 0, 8, true);
            link(x, 1, 8, true);
            link(x, 0, 9, false);
            link(x, 1, 0, false);
            if (turn == 0) {
                x.parse();
            } else if (turn == 1) {
                Grammars.tokens(x, 0, 1);
            } else if (turn == 2) {
                Check.due("parse()", x.parse(), 1);
            } else if (turn == 3) {
                Check.due("selectTree(0)", x.selectTree(0), 2);
            } else {
                x.clearInput();
            }
        }
    }

    /** Chains of 0 to 7 steps to a nonterminal and of 1 to 8 to a terminal, whatever the order of their rules. */
    private static void everyLength() {
        int[][] orders = {{0, 1, 2, 3, 4, 5, 6, 7}, {7, 6, 5, 4, 3, 2, 1, 0}, {4, 0, 7, 3, 5, 1, 6, 2}};
        int[] names = {5, 2, 7, 0, 3, 6, 1, 4, 12};
        for (int[] order : orders) {
            LeftCorner x = new LeftCorner(8, 8);
            for (int k : order) {
                Grammars.rule(x, names[k], names[k + 1], 8);
            }
            for (int from = 0; from < 8; from++) {
                for (int to = 0; to <= 8; to++) {
                    link(x, names[from], names[to], from <= to);
                }
            }
        }
        // A sequence may pass a symbol again and again.
        LeftCorner round = new LeftCorner(3, 1);
        Grammars.rule(round, 0, 0, 8);
        Grammars.rule(round, 0, 1, 8);
        Grammars.rule(round, 1, 0, 8);
        link(round, 0, 0, true);
        link(round, 0, 1, true);
        link(round, 1, 0, true);
        link(round, 0, 2, false);
        link(round, 0, 8, false);
    }

    private static void firstSymbolsAlone() {
        LeftCorner x = new LeftCorner(4, 4);
        Grammars.rule(x, 0, 1, 2, 3);
        Grammars.rule(x, 1, 8, 9);
        Grammars.rule(x, 2, 10);
        Grammars.rule(x, 3, 11, 0, 0);
        boolean[][] want = new boolean[4][12];
        want[0][0] = want[0][1] = want[0][8] = true;
        want[1][1] = want[1][8] = true;
        want[2][2] = want[2][10] = true;
        want[3][3] = want[3][11] = true;
        for (int a = 0; a < 4; a++) {
            for (int b = 0; b < 12; b++) {
                link(x, a, b, want[a][b]);
            }
        }
    }

    private static void itself() {
        for (int nt = 1; nt <= 8; nt++) {
            LeftCorner x = new LeftCorner(nt, 8);
            for (int a = 0; a < nt; a++) {
                for (int b = 0; b < 16; b++) {
                    link(x, a, b, a == b);
                }
            }
            Grammars.rule(x, 0, 8);
            for (int a = 0; a < nt; a++) {
                link(x, a, a, true);
            }
        }
    }

    private static void wrongFrom() {
        for (int nt = 1; nt <= 8; nt++) {
            LeftCorner x = new LeftCorner(nt, 8);
            for (int k = 0; k < nt; k++) {
                Grammars.rule(x, k, 0, 8);
                Grammars.rule(x, k, 8 + k);
            }
            for (int b = 0; b < 16; b++) {
                for (int a = nt; a < 20; a++) {
                    link(x, a, b, false);
                }
                for (int a : FAR) {
                    link(x, a, b, false);
                }
            }
        }
    }

    private static void fromTerminals() {
        LeftCorner x = new LeftCorner(8, 8);
        for (int k = 0; k < 8; k++) {
            Grammars.rule(x, k, 8 + k);
        }
        for (int a = 8; a < 16; a++) {
            for (int b = 0; b < 16; b++) {
                link(x, a, b, false);
            }
        }
    }

    private static void wrongTo() {
        for (int size = 1; size <= 8; size++) {
            LeftCorner x = new LeftCorner(size, size);
            for (int k = 0; k < size; k++) {
                Grammars.rule(x, 0, k, 8);
                Grammars.rule(x, 0, 8 + k);
            }
            for (int b = -40; b < 80; b++) {
                link(x, 0, b, 0 <= b && b < size || 8 <= b && b < 8 + size);
            }
            for (int b : FAR) {
                link(x, 0, b, false);
            }
        }
    }

    private static void linkChangesNothing() {
        Situations.changesNothing("isLeftCorner(0, 8)", x -> x.isLeftCorner(0, 8));
        Situations.changesNothing("isLeftCorner(1, 0)", x -> x.isLeftCorner(1, 0));
        Situations.changesNothing("isLeftCorner(2, 2)", x -> x.isLeftCorner(2, 2));
        Situations.changesNothing("isLeftCorner(0, -1)", x -> x.isLeftCorner(0, -1));
    }
}

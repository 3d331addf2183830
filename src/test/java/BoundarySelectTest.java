import java.util.Arrays;
import java.util.HashSet;
import java.util.List;
import java.util.Set;

/** The boundary cases of "Tree order" and of promises 12 and 13, selectTree and selectedRank, sentence by sentence. */
public final class BoundarySelectTest {
    private static final int NONE = LeftCorner.NONE;
    private static final int CAP = LeftCorner.CAP;
    private static final int ERR_STATE = LeftCorner.ERR_STATE;
    private static final int ERR_RANGE = LeftCorner.ERR_RANGE;
    private static final int[] BELOW = {Integer.MIN_VALUE, Integer.MIN_VALUE + 1, -CAP, -65536, -14, -6, -5, -4, -3, -2, -1};
    private static final int[] ABOVE = {CAP - 1, CAP, CAP + 1, 1 << 30, Integer.MAX_VALUE - 1, Integer.MAX_VALUE};

    public static void main(String[] args) {
        Check.sentence("Tree order: the first differing position decides.", BoundarySelectTest::firstDifference);
        Check.sentence("Tree order: pairs are compared by e - s first.", BoundarySelectTest::lengthFirst);
        Check.sentence("Tree order: then by r.", BoundarySelectTest::thenRule);
        Check.sentence("Tree order: a node before its children, children left to right.", BoundarySelectTest::preorder);
        Check.sentence("Tree order: No signature of a tree of the input is a proper prefix of another.",
            BoundarySelectTest::noPrefix);
        Check.sentence("Tree order: rank k (0 <= k < N) has exactly k trees of smaller signature before it.",
            BoundarySelectTest::exactlyKBefore);
        Check.sentence("12.1: Not PARSED: answers ERR_STATE.", BoundarySelectTest::notParsed);
        Check.sentence("12: Conditions in order.", BoundarySelectTest::stateBeforeRange);
        Check.sentence("12.2: count() = CAP: answers ERR_RANGE.", BoundarySelectTest::saturated);
        Check.sentence("12.2: rank < 0: answers ERR_RANGE.", BoundarySelectTest::rankTooSmall);
        Check.sentence("12.2: rank >= count(): answers ERR_RANGE.", BoundarySelectTest::rankTooLarge);
        Check.sentence("12.2: every rank is refused when count() is 0.", BoundarySelectTest::everyRankOfNone);
        Check.sentence("12.2: every rank is refused when count() is CAP.", BoundarySelectTest::everyRankOfCap);
        Check.sentence("12: A refusal changes nothing.", BoundarySelectTest::refusalChangesNothing);
        Check.sentence("12: an earlier selection stays selected.", BoundarySelectTest::earlierSelectionStays);
        Check.sentence("12: the tree of rank becomes the selection, replacing any earlier one.",
            BoundarySelectTest::replaces);
        Check.sentence("12: its nonterminal nodes are numbered 0, 1, .. in preorder (node 0 is the root).",
            BoundarySelectTest::numbersOfNodes);
        Check.sentence("12: their number nodes >= 1 is answered.", BoundarySelectTest::numberIsAnswered);
        Check.sentence("12: Rules, input, PARSED flag and stored count are unchanged.", BoundarySelectTest::restStays);
        Check.sentence("12: for every k with 0 <= k < count(), selectTree(k) succeeds.", BoundarySelectTest::everyRank);
        Check.sentence("12: form the preorder node list of a parse tree of the current input.",
            BoundarySelectTest::parseTrees);
        Check.sentence("12: until the selection is replaced or cleared.", BoundarySelectTest::staysUntil);
        Check.sentence("12: the trees selected for different k are different.", BoundarySelectTest::differentTrees);
        Check.sentence("12: their signatures strictly increase with k.", BoundarySelectTest::increasing);
        Check.sentence("12: every parse tree of the current input is selected by some k.",
            BoundarySelectTest::everyTree);
        Check.sentence("12: Selecting the same rank again gives the same tree.", BoundarySelectTest::sameAgain);
        Check.sentence("13: selectedRank() answers the rank of the selected tree.", BoundarySelectTest::rankOfTheTree);
        Check.sentence("13: or NONE if none is selected.", BoundarySelectTest::noRank);
        Check.sentence("13: After a successful selectTree(k) it answers k.", BoundarySelectTest::rankAfterSelection);
        Check.sentence("13: Changes nothing.", BoundarySelectTest::rankChangesNothing);
        Check.finish();
    }

    private static void select(LeftCorner x, int rank, int want) {
        Check.due("selectTree(" + rank + ")", x.selectTree(rank), want);
    }

    private static LeftCorner parsed(LeftCorner x, int want) {
        Check.due("parse()", x.parse(), want);
        return x;
    }

    /** The given rules over n times a. */
    private static LeftCorner grammar(int nonterminals, int[][] rules, int n) {
        LeftCorner x = new LeftCorner(nonterminals, 1);
        for (int[] rule : rules) {
            Grammars.rule(x, rule[0], Arrays.copyOfRange(rule, 1, rule.length));
        }
        Grammars.repeat(x, n, 0);
        return x;
    }

    private static void order(LeftCorner x, int[]... signatures) {
        parsed(x, signatures.length);
        for (int rank = 0; rank < signatures.length; rank++) {
            int[] got = Trees.select(x, rank);
            Check.due("tree " + rank, Arrays.toString(got), Arrays.toString(signatures[rank]));
        }
    }

    private static void firstDifference() {
        // The first child's rule goes before the second child's length, and this before its rule.
        order(grammar(2, new int[][] {{0, 1, 1, 1}, {1, 8}, {1, 8, 8}, {1, 8}}, 4),
            new int[] {4, 0, 1, 1, 1, 1, 2, 2}, new int[] {4, 0, 1, 1, 1, 3, 2, 2},
            new int[] {4, 0, 1, 1, 2, 2, 1, 1}, new int[] {4, 0, 1, 1, 2, 2, 1, 3},
            new int[] {4, 0, 1, 3, 1, 1, 2, 2}, new int[] {4, 0, 1, 3, 1, 3, 2, 2},
            new int[] {4, 0, 1, 3, 2, 2, 1, 1}, new int[] {4, 0, 1, 3, 2, 2, 1, 3},
            new int[] {4, 0, 2, 2, 1, 1, 1, 1}, new int[] {4, 0, 2, 2, 1, 1, 1, 3},
            new int[] {4, 0, 2, 2, 1, 3, 1, 1}, new int[] {4, 0, 2, 2, 1, 3, 1, 3});
        // What lies deep in the first child goes before the second child.
        order(grammar(3, new int[][] {{0, 1, 2}, {1, 2}, {2, 8}, {2, 8}}, 2),
            new int[] {2, 0, 1, 1, 1, 2, 1, 2}, new int[] {2, 0, 1, 1, 1, 2, 1, 3},
            new int[] {2, 0, 1, 1, 1, 3, 1, 2}, new int[] {2, 0, 1, 1, 1, 3, 1, 3});
    }

    private static void lengthFirst() {
        // The shorter child has the rule of the greater number.
        order(grammar(2, new int[][] {{1, 8, 8}, {0, 1, 1}, {1, 8}}, 3),
            new int[] {3, 1, 1, 2, 2, 0}, new int[] {3, 1, 2, 0, 1, 2});
        // The same behind a terminal, which is no part of a signature.
        order(grammar(2, new int[][] {{1, 8, 8}, {0, 8, 1, 1}, {1, 8}}, 4),
            new int[] {4, 1, 1, 2, 2, 0}, new int[] {4, 1, 2, 0, 1, 2});
    }

    private static void thenRule() {
        int[][] copies = new int[24][];
        int[][] want = new int[24][];
        for (int r = 0; r < 24; r++) {
            copies[r] = new int[] {0, 8};
            want[r] = new int[] {1, r};
        }
        order(grammar(1, copies, 1), want);
        // The root's rule decides before any split below it.
        order(grammar(2, new int[][] {{1, 8, 8}, {0, 1, 8}, {0, 8, 1}, {1, 8}, {0, 1, 1}}, 3),
            new int[] {3, 1, 2, 0}, new int[] {3, 2, 2, 0}, new int[] {3, 4, 1, 3, 2, 0}, new int[] {3, 4, 2, 0, 1, 3});
    }

    private static void preorder() {
        order(grammar(4, new int[][] {{0, 1, 2, 3}, {1, 2}, {2, 3}, {3, 8}}, 3),
            new int[] {3, 0, 1, 1, 1, 2, 1, 3, 1, 2, 1, 3, 1, 3});
    }

    /** One tree is the other with a unit rule put in, at the root and at the leaf. */
    private static void noPrefix() {
        order(grammar(2, new int[][] {{0, 1}, {0, 8}, {1, 8}}, 1), new int[] {1, 0, 1, 2}, new int[] {1, 1});
        LeftCorner x = parsed(grammar(3, new int[][] {{0, 0, 0}, {0, 1}, {0, 8}, {1, 2}, {1, 8}, {2, 8}, {0, 8, 8}}, 5), 3960);
        int[] last = Trees.select(x, 0);
        for (int rank = 1; rank < 3960; rank++) {
            int[] next = Trees.select(x, rank);
            // In their order a signature stands just before those that it begins.
            boolean prefix = next.length > last.length && Arrays.equals(last, Arrays.copyOf(next, last.length));
            Check.due("tree " + rank + " begins with the one before", prefix, false);
            last = next;
        }
    }

    private static void exactlyKBefore() {
        LeftCorner x = parsed(Grammars.catalan(7), 132);
        int[][] signatures = new int[132][];
        for (int rank = 0; rank < 132; rank++) {
            signatures[rank] = Trees.select(x, rank);
        }
        for (int rank = 0; rank < 132; rank++) {
            int before = 0;
            for (int[] other : signatures) {
                before += Trees.compare(other, signatures[rank]) < 0 ? 1 : 0;
            }
            Check.due("trees before tree " + rank, before, rank);
        }
    }

    private static void notParsed() {
        for (int which = 0; which < Situations.NUMBER; which++) {
            LeftCorner x = Situations.make(which);
            if (x.count() == ERR_STATE) {
                select(x, 0, ERR_STATE);
                select(x, 1, ERR_STATE);
            }
        }
        LeftCorner x = parsed(Grammars.catalan(4), 5);
        Grammars.tokens(x, 0);
        select(x, 0, ERR_STATE);
        parsed(x, 14);
        Grammars.rule(x, 0, 8, 8);
        select(x, 0, ERR_STATE);
        x.parse();
        x.clearInput();
        select(x, 0, ERR_STATE);
    }

    private static void stateBeforeRange() {
        LeftCorner[] unparsed = {new LeftCorner(1, 1), Grammars.catalan(4), Grammars.tens(7)};
        for (LeftCorner x : unparsed) {
            for (int rank : BELOW) {
                select(x, rank, ERR_STATE);
            }
            for (int rank : ABOVE) {
                select(x, rank, ERR_STATE);
            }
        }
        // The count from before would refuse these as well.
        LeftCorner saturated = parsed(Grammars.tens(7), CAP);
        saturated.clearInput();
        select(saturated, 0, ERR_STATE);
        select(saturated, -1, ERR_STATE);
    }

    private static void saturated() {
        LeftCorner[] all = {Grammars.tens(6), Grammars.nines(7), Grammars.tens(12)};
        for (LeftCorner x : all) {
            parsed(x, CAP);
            for (int rank : new int[] {0, 1, 2, 1000, 999998, 999999}) {
                select(x, rank, ERR_RANGE);
            }
        }
        LeftCorner below = parsed(Grammars.nines(6), CAP - 1);
        select(below, 0, 7);
    }

    private static void rankTooSmall() {
        LeftCorner[] all = {Grammars.catalan(1), Grammars.catalan(5), Grammars.catalan(12), Grammars.nines(6)};
        for (LeftCorner x : all) {
            x.parse();
            for (int rank : BELOW) {
                select(x, rank, ERR_RANGE);
            }
            Check.due("selectTree(0) is accepted", x.selectTree(0) >= 1, true);
        }
    }

    private static void rankTooLarge() {
        int[] catalan = {1, 1, 2, 5, 14, 42, 132, 429, 1430, 4862, 16796, 58786};
        for (int n = 1; n <= 12; n++) {
            LeftCorner x = parsed(Grammars.catalan(n), catalan[n - 1]);
            select(x, catalan[n - 1] - 1, 2 * n - 1);
            select(x, catalan[n - 1], ERR_RANGE);
            select(x, catalan[n - 1] + 1, ERR_RANGE);
            for (int rank : ABOVE) {
                select(x, rank, ERR_RANGE);
            }
        }
        LeftCorner nines = parsed(Grammars.nines(6), CAP - 1);
        select(nines, CAP - 2, 12);
        select(nines, CAP - 1, ERR_RANGE);
        select(nines, CAP, ERR_RANGE);
    }

    private static void refusesEveryRank(LeftCorner x) {
        for (int rank = -3; rank < 30; rank++) {
            select(x, rank, ERR_RANGE);
        }
        for (int rank : BELOW) {
            select(x, rank, ERR_RANGE);
        }
        for (int rank : ABOVE) {
            select(x, rank, ERR_RANGE);
        }
        Check.due("selectedRank()", x.selectedRank(), NONE);
    }

    private static void everyRankOfNone() {
        refusesEveryRank(parsed(new LeftCorner(1, 1), 0));
        refusesEveryRank(parsed(Grammars.catalan(0), 0));
        LeftCorner noTree = new LeftCorner(2, 1);
        Grammars.rule(noTree, 1, 8);
        Grammars.repeat(noTree, 12, 0);
        refusesEveryRank(parsed(noTree, 0));
        // A tree was there to select before.
        LeftCorner before = parsed(Grammars.catalan(4), 5);
        select(before, 4, 7);
        before.clearInput();
        refusesEveryRank(parsed(before, 0));
    }

    private static void everyRankOfCap() {
        LeftCorner x = parsed(Grammars.tens(6), CAP);
        refusesEveryRank(x);
        for (int rank = 0; rank < CAP; rank += 997) {
            select(x, rank, ERR_RANGE);
        }
        refusesEveryRank(parsed(Grammars.tens(12), CAP));
    }

    private static void refusalChangesNothing() {
        for (int rank : new int[] {Integer.MIN_VALUE, -1, CAP - 1, CAP, Integer.MAX_VALUE}) {
            Situations.changesNothing("selectTree(" + rank + ")", x -> {
                select(x, rank, x.count() == ERR_STATE ? ERR_STATE : ERR_RANGE);
            });
        }
        Situations.changesNothing("selectTree(count)", x -> {
            select(x, x.count(), x.count() == ERR_STATE ? ERR_STATE : ERR_RANGE);
        });
        Situations.changesNothing("selectTree(0) without a tree", x -> {
            if (x.count() <= 0 || x.count() == CAP) {
                select(x, 0, x.count() == ERR_STATE ? ERR_STATE : ERR_RANGE);
            }
        });
    }

    private static void earlierSelectionStays() {
        LeftCorner x = parsed(Grammars.catalan(5), 14);
        for (int rank = 0; rank < 14; rank++) {
            select(x, rank, 9);
            List<Integer> selection = State.selection(x);
            for (int refused : new int[] {14, -1, Integer.MAX_VALUE, Integer.MIN_VALUE}) {
                select(x, refused, ERR_RANGE);
                Check.due("selection " + rank, State.selection(x), selection);
            }
        }
    }

    private static void replaces() {
        // Trees of three, two and one nodes: nothing of a longer one stays behind a shorter one.
        LeftCorner x = parsed(grammar(3, new int[][] {{0, 1}, {1, 2}, {2, 8}, {1, 8}, {0, 8}}, 1), 3);
        int[] nodes = {3, 2, 1};
        int[] ranks = {0, 2, 1, 0, 1, 2, 2, 0};
        for (int rank : ranks) {
            select(x, rank, nodes[rank]);
            Check.due("selectedRank()", x.selectedRank(), rank);
            for (int k = 0; k < 5; k++) {
                Check.due("nodeDepth(" + k + ") of tree " + rank, x.nodeDepth(k), k < nodes[rank] ? k : NONE);
            }
        }
    }

    private static void numbersOfNodes() {
        LeftCorner x = parsed(grammar(3, new int[][] {{0, 1, 8, 2}, {1, 2}, {2, 8}, {2, 8, 8}}, 4), 2);
        select(x, 0, 4);
        Check.due("tree 0", Trees.read(x, 4), List.of(0, 0, 4, 0, 1, 0, 1, 1, 2, 0, 1, 2, 3, 2, 4, 1));
        select(x, 1, 4);
        Check.due("tree 1", Trees.read(x, 4), List.of(0, 0, 4, 0, 1, 0, 2, 1, 3, 0, 2, 2, 2, 3, 4, 1));
    }

    private static void numberIsAnswered() {
        LeftCorner least = parsed(grammar(1, new int[][] {{0, 8}}, 1), 1);
        select(least, 0, 1);
        LeftCorner flat = parsed(grammar(1, new int[][] {{0, 8, 8, 8}}, 3), 1);
        select(flat, 0, 1);
        for (int n = 1; n <= 12; n++) {
            LeftCorner most = Grammars.longChains(n);
            most.parse();
            select(most, 0, 8 * (2 * n - 1));
            select(most, most.count() - 1, 8 * (2 * n - 1));
            LeftCorner line = parsed(grammar(1, new int[][] {{0, 8, 0}, {0, 8}}, n), 1);
            select(line, 0, n);
        }
    }

    private static void restStays() {
        for (int which = 6; which < Situations.NUMBER; which++) {
            LeftCorner x = Situations.make(which);
            int count = x.count();
            if (count > 0 && count < CAP) {
                List<Integer> rules = State.rules(x);
                List<Integer> input = State.input(x);
                for (int rank : new int[] {0, count / 2, count - 1}) {
                    Check.due("selectTree(" + rank + ") is accepted", x.selectTree(rank) >= 1, true);
                    Check.due(Situations.name(which) + ", count()", x.count(), count);
                    Check.due(Situations.name(which) + ", rules", State.rules(x), rules);
                    Check.due(Situations.name(which) + ", input", State.input(x), input);
                }
                Check.due(Situations.name(which) + ", parse()", x.parse(), count);
            }
        }
    }

    private static void everyRank() {
        LeftCorner x = parsed(Grammars.catalan(12), 58786);
        for (int rank = 0; rank < 58786; rank++) {
            select(x, rank, 23);
        }
        LeftCorner nines = parsed(Grammars.nines(6), CAP - 1);
        for (int rank = 0; rank < CAP - 1; rank += 7) {
            Check.due("selectTree(" + rank + ") is accepted", nines.selectTree(rank) >= 1, true);
        }
    }

    private static void parseTrees() {
        LeftCorner[] all = {
            Grammars.catalan(1), Grammars.catalan(8), Grammars.longChains(7), Grammars.nines(3), Grammars.tens(3)
        };
        for (LeftCorner x : all) {
            x.parse();
            for (int rank = 0; rank < x.count(); rank++) {
                Trees.select(x, rank);
            }
        }
        LeftCorner longest = parsed(Grammars.longChains(12), 58786);
        for (int rank = 0; rank < 58786; rank += 409) {
            Trees.select(longest, rank);
        }
        Trees.select(longest, 58785);
    }

    private static void staysUntil() {
        LeftCorner x = parsed(Grammars.catalan(6), 42);
        select(x, 17, 11);
        List<Integer> selection = State.selection(x);
        x.isLeftCorner(0, 8);
        x.ruleSymbol(0, 0);
        x.inputToken(0);
        x.count();
        x.addRule(0, 0, NONE, NONE);
        x.addToken(1);
        x.selectTree(42);
        Check.due("selection", State.selection(x), selection);
        LeftCorner other = parsed(Grammars.catalan(9), 1430);
        select(other, 700, 17);
        Check.due("selection beside another object", State.selection(x), selection);
    }

    private static void differentTrees() {
        LeftCorner[] all = {Grammars.catalan(9), Grammars.longChains(6), Grammars.nines(4), Grammars.tens(4)};
        for (LeftCorner x : all) {
            x.parse();
            Set<List<Integer>> seen = new HashSet<>();
            for (int rank = 0; rank < x.count(); rank++) {
                int nodes = x.selectTree(rank);
                Check.due("tree " + rank + " is a new one", seen.add(Trees.read(x, nodes)), true);
            }
        }
    }

    private static void increasing() {
        LeftCorner[] all = {Grammars.catalan(10), Grammars.longChains(8), Grammars.nines(4), Grammars.tens(4)};
        for (LeftCorner x : all) {
            x.parse();
            int[] last = {};
            for (int rank = 0; rank < x.count(); rank++) {
                int[] next = Trees.signature(x, x.selectTree(rank));
                Check.due("tree " + rank + " comes after the one before", Trees.compare(last, next) < 0, true);
                last = next;
            }
        }
        // Just below the cap, at both ends and between.
        LeftCorner nines = parsed(Grammars.nines(6), CAP - 1);
        int[] last = {};
        for (int rank = 0; rank < CAP - 1; rank += rank < 100 || rank > CAP - 100 ? 1 : 97) {
            int[] next = Trees.signature(nines, nines.selectTree(rank));
            Check.due("tree " + rank + " comes after the one before", Trees.compare(last, next) < 0, true);
            last = next;
        }
    }

    /** The model lists all trees by itself. */
    private static void everyTree() {
        LeftCorner[] all = {
            Grammars.catalan(1), Grammars.catalan(7), Grammars.longChains(5), Grammars.nines(3), Grammars.tens(2),
            grammar(3, new int[][] {{0, 0, 0}, {0, 1}, {0, 8}, {1, 2}, {1, 8}, {2, 8}, {0, 8, 8}}, 4)
        };
        for (LeftCorner x : all) {
            Model model = Model.of(x);
            parsed(x, model.count());
            for (int rank = 0; rank < model.count(); rank++) {
                select(x, rank, model.selectTree(rank));
                for (int k = 0; model.nodeRule(k) != NONE; k++) {
                    Check.due("nodeRule(" + k + ") of " + rank, x.nodeRule(k), model.nodeRule(k));
                    Check.due("nodeStart(" + k + ") of " + rank, x.nodeStart(k), model.nodeStart(k));
                    Check.due("nodeEnd(" + k + ") of " + rank, x.nodeEnd(k), model.nodeEnd(k));
                    Check.due("nodeDepth(" + k + ") of " + rank, x.nodeDepth(k), model.nodeDepth(k));
                }
            }
        }
    }

    private static void sameAgain() {
        LeftCorner x = parsed(Grammars.catalan(6), 42);
        for (int rank = 0; rank < 42; rank++) {
            select(x, rank, 11);
            List<Integer> first = State.selection(x);
            select(x, rank, 11);
            Check.due("at once", State.selection(x), first);
            select(x, 41 - rank, 11);
            select(x, rank, 11);
            Check.due("after another", State.selection(x), first);
            parsed(x, 42);
            select(x, rank, 11);
            Check.due("after parse()", State.selection(x), first);
        }
    }

    private static void rankOfTheTree() {
        LeftCorner x = parsed(Grammars.catalan(5), 14);
        for (int rank = 13; rank >= 0; rank--) {
            select(x, rank, 9);
            Check.due("selectedRank()", x.selectedRank(), rank);
            select(x, 14, ERR_RANGE);
            select(x, -1, ERR_RANGE);
            Check.due("selectedRank() after refusals", x.selectedRank(), rank);
        }
    }

    private static void noRank() {
        LeftCorner x = new LeftCorner(1, 1);
        Check.due("fresh, selectedRank()", x.selectedRank(), NONE);
        select(x, 0, ERR_STATE);
        Check.due("refused, selectedRank()", x.selectedRank(), NONE);
        x = parsed(Grammars.catalan(4), 5);
        Check.due("parsed, selectedRank()", x.selectedRank(), NONE);
        select(x, 5, ERR_RANGE);
        Check.due("refused, selectedRank()", x.selectedRank(), NONE);
        for (int turn = 0; turn < 4; turn++) {
            x = parsed(Grammars.catalan(4), 5);
            select(x, 0, 7);
            Check.due("selectedRank()", x.selectedRank(), 0);
            if (turn == 0) {
                x.parse();
            } else if (turn == 1) {
                x.clearInput();
            } else if (turn == 2) {
                Grammars.tokens(x, 0);
            } else {
                Grammars.rule(x, 0, 8);
            }
            Check.due("cleared, selectedRank()", x.selectedRank(), NONE);
        }
    }

    private static void rankAfterSelection() {
        LeftCorner x = parsed(Grammars.nines(6), CAP - 1);
        for (int rank : new int[] {0, 1, 65535, 65536, 500000, CAP - 3, CAP - 2, 0}) {
            Check.due("selectTree(" + rank + ") is accepted", x.selectTree(rank) >= 1, true);
            Check.due("selectedRank()", x.selectedRank(), rank);
        }
    }

    private static void rankChangesNothing() {
        Situations.changesNothing("selectedRank()", LeftCorner::selectedRank);
    }
}

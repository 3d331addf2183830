import java.math.BigInteger;
import java.util.Arrays;
import java.util.List;

/** The boundary cases of "Parse tree" and of promises 10 and 11, parse and count, sentence by sentence. */
public final class BoundaryParseTest {
    private static final int NONE = LeftCorner.NONE;
    private static final int CAP = LeftCorner.CAP;
    private static final int ERR_STATE = LeftCorner.ERR_STATE;

    public static void main(String[] args) {
        Check.sentence("Parse tree: a leaf at one position p with w[p] = t, span [p, p+1).", BoundaryParseTest::leaves);
        Check.sentence("Parse tree: The children's spans are contiguous.", BoundaryParseTest::contiguous);
        Check.sentence("Parse tree: The children's spans are nonempty.", BoundaryParseTest::nonempty);
        Check.sentence("Parse tree: and together equal the parent's span.", BoundaryParseTest::together);
        Check.sentence("Parse tree: The root has symbol 0.", BoundaryParseTest::rootSymbol);
        Check.sentence("Parse tree: The root has span [0, n).", BoundaryParseTest::rootSpan);
        Check.sentence("Parse tree: Two trees are the same iff they have the same shape, rules and spans.",
            BoundaryParseTest::different);
        Check.sentence("Parse tree: N = 0 when n = 0.", BoundaryParseTest::emptyInput);
        Check.sentence("Rules: every input has finitely many parse trees.", BoundaryParseTest::allUnitRulesThatFit);
        Check.sentence("What it is: N and the tree of each rank are defined purely by the held rules and the held input.",
            BoundaryParseTest::onlyRulesAndInput);
        Check.sentence("10: parses the current input with the current rules.", BoundaryParseTest::currentRulesAndInput);
        Check.sentence("10: and is never refused.", BoundaryParseTest::neverRefused);
        Check.sentence("10: It sets PARSED.", BoundaryParseTest::setsParsed);
        Check.sentence("10: stores and answers min(N, CAP).", BoundaryParseTest::storesTheLesser);
        Check.sentence("10: clears any selection.", BoundaryParseTest::clearsSelection);
        Check.sentence("10: (also when already parsed).", BoundaryParseTest::clearsSelectionAgain);
        Check.sentence("10: With empty input the answer is 0.", BoundaryParseTest::emptyAgain);
        Check.sentence("10: Rules and input are unchanged.", BoundaryParseTest::keepsRulesAndInput);
        Check.sentence("10: The answer is 0 exactly when no parse tree of the input exists.", BoundaryParseTest::zero);
        Check.sentence("10: and CAP exactly when N >= CAP.", BoundaryParseTest::cap);
        Check.sentence("10: CAP also where N, in an int or a long, would wrap around.", BoundaryParseTest::wrapAround);
        Check.sentence("10: for any answer c with 0 < c < CAP, c equals N.", BoundaryParseTest::exact);
        Check.sentence("10: Calling parse() again with no change in between answers the same value.",
            BoundaryParseTest::again);
        Check.sentence("11: count() answers the value the last parse() answered, if PARSED.",
            BoundaryParseTest::countIsTheAnswer);
        Check.sentence("11: otherwise ERR_STATE.", BoundaryParseTest::countBeforeParse);
        Check.sentence("11: Changes nothing.", BoundaryParseTest::countChangesNothing);
        Check.sentence("11: A successful addRule makes it answer ERR_STATE until the next parse().",
            BoundaryParseTest::countAfterRule);
        Check.sentence("11: A successful addToken makes it answer ERR_STATE until the next parse().",
            BoundaryParseTest::countAfterToken);
        Check.sentence("11: Any clearInput makes it answer ERR_STATE until the next parse().",
            BoundaryParseTest::countAfterClear);
        Check.sentence("11: A refused addRule or addToken is not a successful one.",
            BoundaryParseTest::countAfterRefusals);
        Check.finish();
    }

    private static void parse(String what, LeftCorner x, int want) {
        Check.due(what + ", parse()", x.parse(), want);
        Check.due(what + ", count()", x.count(), want);
    }

    private static void over(LeftCorner x, int want, int... tokens) {
        x.clearInput();
        Grammars.tokens(x, tokens);
        parse("over " + State.input(x), x, want);
    }

    private static void leaves() {
        LeftCorner x = new LeftCorner(1, 3);
        Grammars.rule(x, 0, 8, 10, 9);
        for (int p = 0; p < 27; p++) {
            over(x, p == 2 * 3 + 1 ? 1 : 0, p / 9, p / 3 % 3, p % 3);
        }
        LeftCorner one = new LeftCorner(1, 8);
        Grammars.rule(one, 0, 15);
        over(one, 1, 7);
        over(one, 0, 6);
        over(one, 0, 7, 7);
        over(one, 0, 7, 7, 7, 7, 7, 7, 7, 7, 7, 7, 7, 7);
    }

    private static void contiguous() {
        LeftCorner x = new LeftCorner(3, 2);
        Grammars.rule(x, 0, 1, 2);
        Grammars.rule(x, 1, 8);
        Grammars.rule(x, 2, 8);
        over(x, 1, 0, 0);
        over(x, 0, 0, 1, 0);
        over(x, 0, 0, 0, 0);
        over(x, 0, 0);
        LeftCorner three = new LeftCorner(2, 2);
        Grammars.rule(three, 0, 1, 1, 1);
        Grammars.rule(three, 1, 8);
        Grammars.rule(three, 1, 8, 8);
        over(three, 1, 0, 0, 0);
        over(three, 3, 0, 0, 0, 0);
        over(three, 1, 0, 0, 0, 0, 0, 0);
        over(three, 0, 0, 0, 1, 0, 0, 0);
    }

    private static void nonempty() {
        LeftCorner x = new LeftCorner(2, 1);
        Grammars.rule(x, 0, 1, 1, 1);
        Grammars.rule(x, 1, 8);
        over(x, 0, 0);
        over(x, 0, 0, 0);
        over(x, 1, 0, 0, 0);
        LeftCorner two = new LeftCorner(1, 1);
        Grammars.rule(two, 0, 0, 0);
        over(two, 0, 0);
        over(two, 0, 0, 0);
        Grammars.rule(two, 0, 8);
        over(two, 1, 0);
        over(two, 1, 0, 0);
    }

    private static void together() {
        LeftCorner x = new LeftCorner(2, 1);
        Grammars.rule(x, 0, 1, 8);
        Grammars.rule(x, 1, 8, 8);
        for (int n = 1; n <= 12; n++) {
            over(x, n == 3 ? 1 : 0, new int[n]);
        }
        LeftCorner full = new LeftCorner(2, 1);
        Grammars.rule(full, 0, 1, 1, 1);
        Grammars.rule(full, 1, 8, 8, 8);
        Grammars.rule(full, 1, 1, 8);
        // 3 + 3 + 6, 3 + 6 + 3 and so on: nine tokens at least, and three more to hand out.
        for (int n = 1; n <= 12; n++) {
            over(full, n < 9 ? 0 : (n - 8) * (n - 7) / 2, new int[n]);
        }
    }

    private static void rootSymbol() {
        for (int k = 1; k < 8; k++) {
            LeftCorner x = new LeftCorner(8, 1);
            Grammars.rule(x, k, 8);
            over(x, 0, 0);
            Grammars.rule(x, 0, k);
            over(x, 1, 0);
        }
    }

    private static void rootSpan() {
        LeftCorner x = new LeftCorner(1, 2);
        Grammars.rule(x, 0, 8, 8);
        over(x, 1, 0, 0);
        over(x, 0, 0, 0, 0);
        over(x, 0, 0, 0, 1);
        over(x, 0, 1, 0, 0);
        over(x, 0, 1, 0, 0, 1);
        over(x, 0, 0, 0, 0, 0);
        over(x, 0, 0);
        LeftCorner widest = new LeftCorner(1, 1);
        Grammars.rule(widest, 0, 8, 0);
        Grammars.rule(widest, 0, 8);
        over(widest, 1, new int[12]);
        Check.due("selectTree(0)", widest.selectTree(0), 12);
        Check.due("nodeStart(0)", widest.nodeStart(0), 0);
        Check.due("nodeEnd(0)", widest.nodeEnd(0), 12);
    }

    private static void different() {
        // By rules alone, by spans alone, and by shape alone.
        LeftCorner rules = new LeftCorner(1, 1);
        Grammars.copies(rules, 2, 0, 8);
        over(rules, 2, 0);
        LeftCorner spans = new LeftCorner(2, 1);
        Grammars.rule(spans, 0, 1, 1);
        Grammars.rule(spans, 1, 8, 1);
        Grammars.rule(spans, 1, 8);
        over(spans, 11, new int[12]);
        LeftCorner shape = new LeftCorner(1, 1);
        Grammars.rule(shape, 0, 0, 0);
        Grammars.rule(shape, 0, 8);
        over(shape, 2, new int[3]);
        // The same derivation in another order of steps is the same tree.
        LeftCorner order = new LeftCorner(3, 1);
        Grammars.rule(order, 0, 1, 2, 1);
        Grammars.rule(order, 1, 8);
        Grammars.rule(order, 2, 8);
        over(order, 1, new int[3]);
    }

    private static void emptyInput() {
        parse("fresh", new LeftCorner(8, 8), 0);
        parse("catalan", Grammars.catalan(0), 0);
        parse("chains", Grammars.longChains(0), 0);
        parse("nines", Grammars.nines(0), 0);
    }

    /** 0 -> 1, 0 -> 2, .., 6 -> 7 as far as the table goes: the paths from 0 to the last are the trees. */
    private static void allUnitRulesThatFit() {
        int[] want = {1, 1, 2, 4, 8, 16, 32};
        for (int last = 1; last <= 6; last++) {
            LeftCorner x = new LeftCorner(8, 1);
            Grammars.rule(x, last, 8);
            for (int lhs = last - 1; lhs >= 0; lhs--) {
                for (int a = lhs + 1; a <= last; a++) {
                    Grammars.rule(x, lhs, a);
                    Check.due("back again", x.addRule(a, lhs, NONE, NONE), LeftCorner.ERR_CYCLE);
                }
            }
            over(x, want[last], 0);
        }
    }

    /** One object comes to its rules and input straight, the other by detours. */
    private static void onlyRulesAndInput() {
        LeftCorner straight = new LeftCorner(3, 2);
        LeftCorner detours = new LeftCorner(3, 2);
        int[][] rules = {{0, 0, 0}, {0, 1}, {1, 2}, {2, 8}, {0, 8, 9}, {1, 9}, {0, 1, 9, 0}};
        for (int[] rule : rules) {
            Grammars.rule(straight, rule[0], Arrays.copyOfRange(rule, 1, rule.length));
            Grammars.rule(detours, rule[0], Arrays.copyOfRange(rule, 1, rule.length));
            Check.due("refused", detours.addRule(2, 8, NONE, 8), LeftCorner.ERR_SYMBOL);
            Grammars.repeat(detours, 12, rule[0] % 2);
            detours.parse();
            detours.selectTree(0);
            detours.addRule(1, 1, NONE, NONE);
            detours.clearInput();
        }
        int[] input = {0, 1, 0, 0, 1, 1, 0};
        for (int t : input) {
            Grammars.tokens(straight, t);
            Grammars.tokens(detours, t);
            detours.parse();
            detours.selectTree(detours.count() / 2);
            detours.addToken(2);
        }
        Check.due("parse()", straight.parse(), detours.parse());
        Check.due("there are trees to compare", straight.count() > 20, true);
        for (int rank = 0; rank < straight.count(); rank++) {
            Check.due("selectTree(" + rank + ")", straight.selectTree(rank), detours.selectTree(rank));
            Check.due("tree " + rank, State.selection(straight), State.selection(detours));
        }
    }

    private static void currentRulesAndInput() {
        LeftCorner x = new LeftCorner(2, 2);
        parse("no rule, no token", x, 0);
        Grammars.tokens(x, 0);
        parse("no rule", x, 0);
        Grammars.rule(x, 0, 8);
        parse("a by 0 -> a", x, 1);
        Grammars.tokens(x, 1);
        parse("a b by 0 -> a", x, 0);
        Grammars.rule(x, 0, 0, 9);
        parse("a b by two rules", x, 1);
        Grammars.rule(x, 0, 0, 1);
        Grammars.rule(x, 1, 9);
        parse("a b by four rules", x, 2);
        x.clearInput();
        parse("cleared", x, 0);
        Grammars.tokens(x, 1);
        parse("b", x, 0);
        Grammars.rule(x, 0, 1);
        parse("b by 0 -> 1", x, 1);
        // A long input leaves nothing behind for a short one.
        LeftCorner y = Grammars.catalan(12);
        parse("a^12", y, 58786);
        Grammars.rule(y, 0, 8, 8, 8);
        over(y, 3, 0, 0, 0);
    }

    private static void neverRefused() {
        for (int which = 0; which < Situations.NUMBER; which++) {
            LeftCorner x = Situations.make(which);
            for (int turn = 0; turn < 3; turn++) {
                Check.due(Situations.name(which) + ", parse() is a count", x.parse() >= 0, true);
            }
        }
    }

    private static void setsParsed() {
        for (int which = 0; which < Situations.NUMBER; which++) {
            LeftCorner x = Situations.make(which);
            int answered = x.parse();
            Check.due(Situations.name(which) + ", count()", x.count(), answered);
            Check.due(Situations.name(which) + ", selectTree(0)", x.selectTree(0) != ERR_STATE, true);
        }
    }

    private static void storesTheLesser() {
        parse("10^5", Grammars.tens(5), 100000);
        parse("10^6 - 1", Grammars.nines(6), CAP - 1);
        parse("10^6", Grammars.tens(6), CAP);
        parse("10^6 + 1", tensAndOne(6), CAP);
        parse("10^5 + 1", tensAndOne(5), 100001);
        parse("10^7", Grammars.tens(7), CAP);
        parse("0", Grammars.tens(0), 0);
    }

    /** Over n times a, 10 ^ n + 1 trees. */
    private static LeftCorner tensAndOne(int n) {
        LeftCorner x = new LeftCorner(4, 1);
        Grammars.rule(x, 0, 1);
        Grammars.rule(x, 1, 1, 2);
        Grammars.rule(x, 1, 2);
        Grammars.copies(x, 10, 2, 8);
        oneTreeMore(x);
        Grammars.repeat(x, n, 0);
        return x;
    }

    private static void oneTreeMore(LeftCorner x) {
        Grammars.rule(x, 0, 3);
        Grammars.rule(x, 3, 8, 3);
        Grammars.rule(x, 3, 8);
    }

    private static void clearsSelection() {
        List<Integer> none = State.selection(new LeftCorner(1, 1));
        for (int which = 0; which < Situations.NUMBER; which++) {
            LeftCorner x = Situations.make(which);
            x.parse();
            Check.due(Situations.name(which) + ", selection", State.selection(x), none);
        }
    }

    private static void clearsSelectionAgain() {
        List<Integer> none = State.selection(new LeftCorner(1, 1));
        LeftCorner x = Grammars.catalan(5);
        for (int rank = 0; rank < 14; rank++) {
            parse("again", x, 14);
            Check.due("selectTree(" + rank + ")", x.selectTree(rank), 9);
            parse("again", x, 14);
            Check.due("selection", State.selection(x), none);
        }
    }

    private static void emptyAgain() {
        for (int which = 0; which < Situations.NUMBER; which++) {
            LeftCorner x = Situations.make(which);
            x.parse();
            x.clearInput();
            parse(Situations.name(which), x, 0);
            Check.due("selectTree(0)", x.selectTree(0), LeftCorner.ERR_RANGE);
        }
    }

    private static void keepsRulesAndInput() {
        for (int which = 0; which < Situations.NUMBER; which++) {
            LeftCorner x = Situations.make(which);
            List<Integer> rules = State.rules(x);
            List<Integer> input = State.input(x);
            x.parse();
            Check.due(Situations.name(which) + ", rules", State.rules(x), rules);
            Check.due(Situations.name(which) + ", input", State.input(x), input);
        }
    }

    private static void zero() {
        LeftCorner x = new LeftCorner(3, 2);
        over(x, 0, 0);
        // Recursion that never comes to a token.
        Grammars.rule(x, 0, 0, 0);
        Grammars.rule(x, 0, 1, 0);
        Grammars.rule(x, 1, 0, 1, 0);
        over(x, 0, new int[12]);
        // Above the cap below, but nothing to go with it.
        Grammars.copies(x, 5, 2, 2, 2);
        Grammars.copies(x, 5, 2, 8);
        Grammars.rule(x, 0, 2, 9);
        Grammars.rule(x, 0, 9, 2);
        Grammars.rule(x, 0, 2, 1, 2);
        over(x, 0, new int[12]);
        over(x, CAP, 0, 0, 0, 0, 0, 0, 0, 0, 0, 0, 0, 1);
        // Only the one input of its length and no other.
        LeftCorner y = new LeftCorner(1, 2);
        Grammars.rule(y, 0, 8, 0, 9);
        Grammars.rule(y, 0, 8, 9);
        for (int bits = 0; bits < 1 << 12; bits++) {
            y.clearInput();
            for (int i = 0; i < 12; i++) {
                y.addToken(bits >> i & 1);
            }
            Check.due("parse() of " + Integer.toBinaryString(bits), y.parse(), bits == 0xFC0 ? 1 : 0);
        }
    }

    private static void cap() {
        parse("10^6 - 1", Grammars.nines(6), CAP - 1);
        parse("10^6", Grammars.tens(6), CAP);
        parse("10^7 - 1", Grammars.nines(7), CAP);
        for (int n = 7; n <= 12; n++) {
            parse("10^" + n, Grammars.tens(n), CAP);
        }
        // CAP exactly as a product of 1000 and 1000, as ten times 100000, and one short of that.
        LeftCorner product = new LeftCorner(3, 1);
        Grammars.rule(product, 0, 1, 1);
        Grammars.rule(product, 1, 2, 2, 2);
        Grammars.copies(product, 10, 2, 8);
        over(product, CAP, new int[6]);
        for (int copies = 9; copies <= 11; copies++) {
            LeftCorner sum = new LeftCorner(3, 1);
            Grammars.copies(sum, copies, 0, 1);
            Grammars.rule(sum, 1, 1, 2);
            Grammars.rule(sum, 1, 2);
            Grammars.copies(sum, 10, 2, 8);
            over(sum, copies == 9 ? 900000 : CAP, new int[5]);
        }
    }

    /** Any number of nonterminal 2, which has 16 rules for a and two for b. */
    private static LeftCorner powersOfTwo() {
        LeftCorner x = new LeftCorner(4, 3);
        Grammars.rule(x, 0, 1);
        Grammars.rule(x, 1, 1, 2);
        Grammars.rule(x, 1, 2);
        Grammars.copies(x, 16, 2, 8);
        Grammars.copies(x, 2, 2, 9);
        return x;
    }

    private static void saturates(LeftCorner x, BigInteger exact, int... tokens) {
        over(x, CAP, tokens);
        Check.due("N by the model", Model.of(x).exactCount(), exact);
    }

    private static void wrapAround() {
        BigInteger two = BigInteger.TWO;
        over(powersOfTwo(), 1 << 19, 0, 0, 0, 0, 1, 1, 1);
        saturates(powersOfTwo(), two.pow(20), 0, 0, 0, 0, 0);
        saturates(powersOfTwo(), two.pow(31), 0, 0, 0, 0, 0, 0, 0, 1, 1, 1);
        saturates(powersOfTwo(), two.pow(32), 0, 0, 0, 0, 0, 0, 0, 0);
        saturates(powersOfTwo(), two.pow(48), new int[12]);
        LeftCorner more = powersOfTwo();
        oneTreeMore(more);
        saturates(more, two.pow(32).add(BigInteger.ONE), 0, 0, 0, 0, 0, 0, 0, 0);
        // Both factors of one product: 2^16 each, then each above the cap by itself.
        LeftCorner halves = powersOfTwo();
        Grammars.rule(halves, 0, 1, 10, 1);
        saturates(halves, two.pow(32), 0, 0, 0, 0, 2, 0, 0, 0, 0);
        saturates(halves, two.pow(40), 0, 0, 0, 0, 0, 2, 0, 0, 0, 0, 0);
        LeftCorner most = new LeftCorner(3, 1);
        Grammars.copies(most, 4, 0, 1);
        Grammars.copies(most, 4, 1, 1, 2);
        Grammars.copies(most, 8, 1, 2);
        Grammars.copies(most, 8, 2, 8);
        saturates(most, two.pow(63), new int[12]);
        LeftCorner pairs = new LeftCorner(1, 1);
        Grammars.copies(pairs, 8, 0, 0, 0);
        Grammars.copies(pairs, 16, 0, 8);
        saturates(pairs, two.pow(81).multiply(BigInteger.valueOf(58786)), new int[12]);
    }

    private static void exact() {
        int[] catalan = {1, 1, 2, 5, 14, 42, 132, 429, 1430, 4862, 16796, 58786};
        int[] ternary = {1, 0, 1, 0, 3, 0, 12, 0, 55, 0, 273, 0};
        LeftCorner three = new LeftCorner(1, 1);
        Grammars.rule(three, 0, 0, 0, 0);
        Grammars.rule(three, 0, 8);
        int power = 1;
        for (int n = 1; n <= 12; n++) {
            parse("catalan " + n, Grammars.catalan(n), catalan[n - 1]);
            parse("chains " + n, Grammars.longChains(n), catalan[n - 1]);
            over(three, ternary[n - 1], new int[n]);
            if (n <= 6) {
                power *= 10;
                parse("10^" + n + " - 1", Grammars.nines(n), power - 1);
            }
            if (n <= 5) {
                parse("10^" + n, Grammars.tens(n), power);
            }
        }
        for (int copies = 1; copies <= 24; copies++) {
            LeftCorner x = new LeftCorner(1, 1);
            Grammars.copies(x, copies, 0, 8);
            over(x, copies, 0);
        }
    }

    private static void again() {
        for (int which = 0; which < Situations.NUMBER; which++) {
            LeftCorner x = Situations.make(which);
            int first = x.parse();
            for (int turn = 0; turn < 3; turn++) {
                parse(Situations.name(which), x, first);
                x.selectTree(turn);
                x.isLeftCorner(0, 8);
                x.addToken(-1);
                x.addRule(-1, -1, -1, -1);
            }
        }
    }

    private static void countIsTheAnswer() {
        parse("0", Grammars.catalan(0), 0);
        parse("1", Grammars.catalan(1), 1);
        parse("CAP - 1", Grammars.nines(6), CAP - 1);
        parse("CAP", Grammars.tens(6), CAP);
        LeftCorner x = Grammars.catalan(2);
        for (int n = 2; n < 12; n++) {
            int answered = x.parse();
            for (int turn = 0; turn < 3; turn++) {
                Check.due("count() over " + n, x.count(), answered);
                x.selectTree(0);
            }
            Grammars.tokens(x, 0);
        }
    }

    private static void countBeforeParse() {
        Check.due("fresh, count()", new LeftCorner(8, 8).count(), ERR_STATE);
        Check.due("with rules, count()", Grammars.catalan(0).count(), ERR_STATE);
        Check.due("with rules and input, count()", Grammars.catalan(12).count(), ERR_STATE);
        LeftCorner x = Grammars.catalan(3);
        Check.due("selectTree(0)", x.selectTree(0), ERR_STATE);
        Check.due("count()", x.count(), ERR_STATE);
    }

    private static void countChangesNothing() {
        Situations.changesNothing("count()", LeftCorner::count);
    }

    private static void noCount(String what, LeftCorner x) {
        for (int turn = 0; turn < 2; turn++) {
            Check.due(what + ", count()", x.count(), ERR_STATE);
            x.selectTree(0);
            x.isLeftCorner(0, 0);
            x.addToken(-1);
            x.addRule(-1, -1, -1, -1);
        }
        Check.due(what + ", count() after parse()", x.parse(), x.count());
    }

    private static void countAfterRule() {
        for (int which = 0; which < Situations.NUMBER; which++) {
            LeftCorner x = Situations.make(which);
            x.parse();
            if (x.ruleCount() < LeftCorner.MAX_RULES) {
                // A rule that no tree of the input can use counts as much.
                Grammars.rule(x, 1, 9, 9, 9);
                noCount(Situations.name(which), x);
            }
        }
    }

    private static void countAfterToken() {
        for (int which = 0; which < Situations.NUMBER; which++) {
            LeftCorner x = Situations.make(which);
            x.parse();
            if (x.inputLength() < LeftCorner.MAX_INPUT) {
                Grammars.tokens(x, 0);
                noCount(Situations.name(which), x);
            }
        }
        LeftCorner last = Grammars.catalan(11);
        last.parse();
        Grammars.tokens(last, 0);
        noCount("the twelfth token", last);
    }

    private static void countAfterClear() {
        for (int which = 0; which < Situations.NUMBER; which++) {
            LeftCorner x = Situations.make(which);
            x.parse();
            x.clearInput();
            noCount(Situations.name(which), x);
            x.clearInput();
            noCount(Situations.name(which) + ", cleared again", x);
        }
    }

    private static void countAfterRefusals() {
        for (int which = 0; which < Situations.NUMBER; which++) {
            LeftCorner x = Situations.make(which);
            int answered = x.parse();
            Check.due("refused", x.addRule(2, 8, NONE, NONE), LeftCorner.ERR_SYMBOL);
            Check.due(Situations.name(which) + ", count()", x.count(), answered);
            Check.due("refused", x.addRule(0, 0, NONE, NONE) < 0, true);
            Check.due(Situations.name(which) + ", count()", x.count(), answered);
            Check.due("refused", x.addToken(2), LeftCorner.ERR_SYMBOL);
            Check.due(Situations.name(which) + ", count()", x.count(), answered);
            if (x.inputLength() == LeftCorner.MAX_INPUT) {
                Check.due("refused", x.addToken(0), LeftCorner.ERR_FULL);
                Check.due(Situations.name(which) + ", count()", x.count(), answered);
            }
        }
    }
}

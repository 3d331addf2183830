import java.util.Random;

/** All promises: random runs of calls, always the same ones, on LeftCorner and on the model. */
public final class RandomRunsTest {
    private static final int RUNS = 4000;
    private static final int MOST_LISTED = 400;
    private static final int[] ODD = {
        Integer.MIN_VALUE, -9, -6, -2, -1, 0, 1, 2, 7, 8, 9, 15, 16, 17, 24, 100, 999999, 1000000, Integer.MAX_VALUE
    };

    private final Random random;
    private final int run;
    private final int nonterminals;
    private final int terminals;
    private final LeftCorner x;
    private final Model model;
    private int[] last = {0, 8, -1, -1};

    private static int ambiguous = 0;
    private static int saturated = 0;
    private static int unparsable = 0;

    private RandomRunsTest(int run) {
        this.run = run;
        random = new Random(run);
        nonterminals = 1 + random.nextInt(random.nextInt(3) == 0 ? 8 : 3);
        terminals = 1 + random.nextInt(random.nextInt(3) == 0 ? 8 : 2);
        x = new LeftCorner(nonterminals, terminals);
        model = new Model(nonterminals, terminals);
    }

    public static void main(String[] args) {
        for (int run = 0; run < RUNS && Check.allRight(); run++) {
            new RandomRunsTest(run).go();
        }
        // Runs that never meet a case would not test it.
        Check.due("runs with several trees", ambiguous > 500, true);
        Check.due("runs at the cap", saturated > 50, true);
        Check.due("runs without a tree", unparsable > 500, true);
        Check.finish();
    }

    private void go() {
        int rules = random.nextInt(1 + random.nextInt(26));
        for (int i = 0; i < rules; i++) {
            addRule();
        }
        int tokens = random.nextInt(14);
        for (int i = 0; i < tokens; i++) {
            addToken();
        }
        parse();
        selectAll();
        for (int i = 0; i < 25; i++) {
            anyCall();
        }
    }

    private void anyCall() {
        switch (random.nextInt(12)) {
            case 0 -> addRule();
            case 1, 2 -> addToken();
            case 3 -> {
                if (random.nextInt(4) == 0) {
                    x.clearInput();
                    model.clearInput();
                    stateAfter("clearInput()");
                }
            }
            case 4, 5, 6, 7 -> parse();
            case 8 -> links();
            default -> select(oddOr(model.count()));
        }
    }

    private int oddOr(int bound) {
        if (bound <= 0 || random.nextInt(8) == 0) {
            return ODD[random.nextInt(ODD.length)];
        }
        return random.nextInt(bound + 1);
    }

    private int symbol() {
        if (random.nextInt(40) == 0) {
            return ODD[random.nextInt(ODD.length)];
        }
        return random.nextBoolean() ? random.nextInt(nonterminals) : 8 + random.nextInt(terminals);
    }

    private void addRule() {
        if (random.nextInt(8) > 0) {
            int lhs = random.nextInt(50) == 0 ? symbol() : random.nextInt(nonterminals);
            int length = 1 + random.nextInt(3);
            last = new int[] {lhs, symbol(), length > 1 ? symbol() : -1, length > 2 ? symbol() : -1};
            if (random.nextInt(60) == 0) {
                last[2] = -1;
            }
        }
        String call = "addRule(" + last[0] + ", " + last[1] + ", " + last[2] + ", " + last[3] + ")";
        due(call, x.addRule(last[0], last[1], last[2], last[3]), model.addRule(last[0], last[1], last[2], last[3]));
        stateAfter(call);
    }

    private void addToken() {
        int t = random.nextInt(20) == 0 ? ODD[random.nextInt(ODD.length)] : random.nextInt(terminals);
        due("addToken(" + t + ")", x.addToken(t), model.addToken(t));
        stateAfter("addToken(" + t + ")");
    }

    private void parse() {
        int count = model.parse();
        due("parse()", x.parse(), count);
        stateAfter("parse()");
        ambiguous += count > 1 ? 1 : 0;
        saturated += count == LeftCorner.CAP ? 1 : 0;
        unparsable += count == 0 && x.inputLength() > 0 ? 1 : 0;
    }

    private void selectAll() {
        for (int rank = 0; model.canList(MOST_LISTED) && rank <= model.count(); rank++) {
            select(rank);
        }
    }

    private void select(int rank) {
        int count = model.count();
        boolean refused = count < 0 || count == LeftCorner.CAP || rank < 0 || rank >= count;
        if (refused || model.canList(MOST_LISTED)) {
            due("selectTree(" + rank + ")", x.selectTree(rank), model.selectTree(rank));
            stateAfter("selectTree(" + rank + ")");
        }
    }

    private void links() {
        for (int a = -2; a < 18; a++) {
            for (int b = -2; b < 18; b++) {
                due("isLeftCorner(" + a + ", " + b + ")", x.isLeftCorner(a, b) ? 1 : 0, model.isLeftCorner(a, b) ? 1 : 0);
            }
        }
        stateAfter("isLeftCorner");
    }

    private void due(String call, int got, int want) {
        Check.due(got == want ? "" : "run " + run + ": " + call, got, want);
    }

    private void stateAfter(String call) {
        due(call + ", ruleCount()", x.ruleCount(), model.ruleCount());
        for (int r = -1; r <= model.ruleCount(); r++) {
            for (int pos = -1; pos < 5; pos++) {
                due(call + ", ruleSymbol", x.ruleSymbol(r, pos), model.ruleSymbol(r, pos));
            }
        }
        due(call + ", inputLength()", x.inputLength(), model.inputLength());
        for (int i = -1; i < 13; i++) {
            due(call + ", inputToken", x.inputToken(i), model.inputToken(i));
        }
        due(call + ", count()", x.count(), model.count());
        due(call + ", selectedRank()", x.selectedRank(), model.selectedRank());
        for (int k = -1; k < 100; k++) {
            due(call + ", nodeRule(" + k + ")", x.nodeRule(k), model.nodeRule(k));
            due(call + ", nodeStart(" + k + ")", x.nodeStart(k), model.nodeStart(k));
            due(call + ", nodeEnd(" + k + ")", x.nodeEnd(k), model.nodeEnd(k));
            due(call + ", nodeDepth(" + k + ")", x.nodeDepth(k), model.nodeDepth(k));
        }
    }
}

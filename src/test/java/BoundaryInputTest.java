import java.util.List;

/** The boundary cases of promises 6 to 9, addToken to inputToken, sentence by sentence. */
public final class BoundaryInputTest {
    private static final int NONE = LeftCorner.NONE;
    private static final int ERR_SYMBOL = LeftCorner.ERR_SYMBOL;
    private static final int ERR_STATE = LeftCorner.ERR_STATE;
    private static final int[] FAR = {
        Integer.MIN_VALUE, Integer.MIN_VALUE + 1, -65536, -256, -32, -16, -13, -12, -8, -6, -5, -4, -3, -2, -1,
        12, 13, 16, 32, 64, 256, 65536, 1 << 30, Integer.MAX_VALUE
    };

    public static void main(String[] args) {
        Check.sentence("6: t not in 0..T-1: answers ERR_SYMBOL.", BoundaryInputTest::wrongToken);
        Check.sentence("6: MAX_INPUT tokens held: answers ERR_FULL.", BoundaryInputTest::full);
        Check.sentence("6: Conditions in order.", BoundaryInputTest::symbolBeforeFull);
        Check.sentence("6: A refusal changes nothing (ERR_SYMBOL).", BoundaryInputTest::symbolRefusal);
        Check.sentence("6: A refusal changes nothing (ERR_FULL).", BoundaryInputTest::fullRefusal);
        Check.sentence("6: t is appended at position inputLength() (before the call).", BoundaryInputTest::appended);
        Check.sentence("6: the PARSED flag is cleared.", BoundaryInputTest::tokenClearsParsed);
        Check.sentence("6: any selection is cleared.", BoundaryInputTest::tokenClearsSelection);
        Check.sentence("6: the new input length (1..MAX_INPUT) is answered.", BoundaryInputTest::answersTheLength);
        Check.sentence("6: Rules are unchanged.", BoundaryInputTest::tokenKeepsRules);
        Check.sentence("6: Earlier tokens are unchanged.", BoundaryInputTest::earlierTokensStay);
        Check.sentence("7: clearInput() always empties the input.", BoundaryInputTest::empties);
        Check.sentence("7: clears the PARSED flag.", BoundaryInputTest::clearsParsed);
        Check.sentence("7: clears any selection.", BoundaryInputTest::clearsSelection);
        Check.sentence("7: even when the input was already empty.", BoundaryInputTest::clearsWhenEmpty);
        Check.sentence("7: Rules stay unchanged.", BoundaryInputTest::clearingKeepsRules);
        Check.sentence("8: inputLength() answers the number of input tokens, 0..MAX_INPUT.",
            BoundaryInputTest::everyLength);
        Check.sentence("8: Changes nothing.", BoundaryInputTest::lengthChangesNothing);
        Check.sentence("9: inputToken(i) answers the token number t (not its code) at position i.",
            BoundaryInputTest::tokenNumbers);
        Check.sentence("9: or NONE if i is not in 0..n-1.", BoundaryInputTest::noSuchPosition);
        Check.sentence("9: Changes nothing.", BoundaryInputTest::readingChangesNothing);
        Check.finish();
    }

    private static void token(LeftCorner x, int t, int want) {
        Check.due("addToken(" + t + ")", x.addToken(t), want);
    }

    private static LeftCorner withTokens(int number) {
        LeftCorner x = new LeftCorner(2, 5);
        for (int i = 0; i < number; i++) {
            Grammars.tokens(x, (i * 3 + 1) % 5);
        }
        return x;
    }

    private static void wrongToken() {
        for (int t = 1; t <= 8; t++) {
            LeftCorner x = new LeftCorner(8, t);
            for (int wrong = t; wrong < 30; wrong++) {
                token(x, wrong, ERR_SYMBOL);
            }
            for (int wrong : FAR) {
                token(x, wrong, ERR_SYMBOL);
            }
            Check.due("inputLength()", x.inputLength(), 0);
            token(x, t - 1, 1);
            token(x, 0, 2);
        }
    }

    private static void full() {
        LeftCorner x = new LeftCorner(1, 3);
        for (int i = 0; i < 12; i++) {
            token(x, i % 3, i + 1);
        }
        for (int turn = 0; turn < 3; turn++) {
            for (int t = 0; t < 3; t++) {
                token(x, t, LeftCorner.ERR_FULL);
            }
            x.parse();
            x.addRule(0, 8, NONE, NONE);
        }
        x.clearInput();
        token(x, 0, 1);
    }

    private static void symbolBeforeFull() {
        LeftCorner x = withTokens(12);
        token(x, 5, ERR_SYMBOL);
        token(x, 8, ERR_SYMBOL);
        for (int wrong : FAR) {
            token(x, wrong, ERR_SYMBOL);
        }
        token(x, 4, LeftCorner.ERR_FULL);
    }

    private static void symbolRefusal() {
        for (int wrong : new int[] {-1, Situations.TERMINALS, 8, Integer.MIN_VALUE, Integer.MAX_VALUE}) {
            Situations.changesNothing("addToken(" + wrong + ")", x -> token(x, wrong, ERR_SYMBOL));
        }
    }

    private static void fullRefusal() {
        Situations.changesNothing("addToken on a full input", x -> {
            if (x.inputLength() == LeftCorner.MAX_INPUT) {
                token(x, 1, LeftCorner.ERR_FULL);
            }
        });
        for (int parses = 0; parses < 2; parses++) {
            LeftCorner x = Grammars.catalan(12);
            LeftCorner twin = Grammars.catalan(12);
            for (int i = 0; i < parses; i++) {
                Check.due("parse()", x.parse(), twin.parse());
            }
            token(x, 0, LeftCorner.ERR_FULL);
            Situations.alike("full, " + parses + " parses", x, twin);
        }
    }

    private static void appended() {
        LeftCorner x = new LeftCorner(1, 8);
        for (int i = 0; i < 12; i++) {
            int before = x.inputLength();
            Grammars.tokens(x, (i * 5 + 3) % 8);
            Check.due("inputToken(" + before + ")", x.inputToken(before), (i * 5 + 3) % 8);
            Check.due("inputToken(" + (before + 1) + ")", x.inputToken(before + 1), NONE);
        }
    }

    private static void tokenClearsParsed() {
        for (int which = 0; which < Situations.NUMBER; which++) {
            LeftCorner x = Situations.make(which);
            if (x.inputLength() < LeftCorner.MAX_INPUT) {
                token(x, 1, x.inputLength() + 1);
                Check.due("count()", x.count(), ERR_STATE);
                Check.due("selectTree(0)", x.selectTree(0), ERR_STATE);
            }
        }
    }

    private static void tokenClearsSelection() {
        List<Integer> none = State.selection(new LeftCorner(1, 1));
        for (int which = 0; which < Situations.NUMBER; which++) {
            LeftCorner x = Situations.make(which);
            if (x.inputLength() < LeftCorner.MAX_INPUT) {
                token(x, 0, x.inputLength() + 1);
                Check.due(Situations.name(which) + ", selection", State.selection(x), none);
            }
        }
    }

    private static void answersTheLength() {
        LeftCorner x = new LeftCorner(1, 2);
        for (int n = 1; n <= LeftCorner.MAX_INPUT; n++) {
            token(x, 7, ERR_SYMBOL);
            token(x, n % 2, n);
        }
    }

    private static void tokenKeepsRules() {
        for (int number : new int[] {0, 1, 12, 23, 24}) {
            LeftCorner x = new LeftCorner(2, 2);
            for (int r = 0; r < number; r++) {
                Grammars.rule(x, 1 - r % 2, 8, r % 2, 9);
            }
            List<Integer> rules = State.rules(x);
            for (int n = 1; n <= 12; n++) {
                token(x, n % 2, n);
                Check.due("rules", State.rules(x), rules);
            }
        }
    }

    private static void earlierTokensStay() {
        LeftCorner x = new LeftCorner(1, 8);
        for (int n = 0; n < 12; n++) {
            Grammars.tokens(x, n * 3 % 8);
            for (int i = 0; i <= n; i++) {
                Check.due("inputToken(" + i + ")", x.inputToken(i), i * 3 % 8);
            }
        }
    }

    private static void empties() {
        for (int n = 0; n <= 12; n++) {
            LeftCorner x = withTokens(n);
            x.clearInput();
            Check.due("inputLength()", x.inputLength(), 0);
            for (int i = -1; i <= 12; i++) {
                Check.due("inputToken(" + i + ")", x.inputToken(i), NONE);
            }
            for (int again = 1; again <= 12; again++) {
                token(x, 4, again);
                Check.due("inputToken(" + again + ") behind the new ones", x.inputToken(again), NONE);
            }
        }
    }

    private static void clearsParsed() {
        for (int which = 0; which < Situations.NUMBER; which++) {
            LeftCorner x = Situations.make(which);
            x.clearInput();
            Check.due(Situations.name(which) + ", count()", x.count(), ERR_STATE);
            Check.due(Situations.name(which) + ", selectTree(0)", x.selectTree(0), ERR_STATE);
            Check.due(Situations.name(which) + ", parse()", x.parse(), 0);
        }
    }

    private static void clearsSelection() {
        List<Integer> none = State.selection(new LeftCorner(1, 1));
        for (int which = 0; which < Situations.NUMBER; which++) {
            LeftCorner x = Situations.make(which);
            x.clearInput();
            Check.due(Situations.name(which) + ", selection", State.selection(x), none);
        }
    }

    private static void clearsWhenEmpty() {
        LeftCorner x = Grammars.catalan(0);
        for (int turn = 0; turn < 3; turn++) {
            Check.due("parse() of no input", x.parse(), 0);
            Check.due("count()", x.count(), 0);
            x.clearInput();
            Check.due("count()", x.count(), ERR_STATE);
            x.clearInput();
            Check.due("count()", x.count(), ERR_STATE);
            Check.due("inputLength()", x.inputLength(), 0);
        }
    }

    private static void clearingKeepsRules() {
        for (int which = 0; which < Situations.NUMBER; which++) {
            LeftCorner x = Situations.make(which);
            List<Integer> rules = State.rules(x);
            x.clearInput();
            Check.due(Situations.name(which) + ", rules", State.rules(x), rules);
        }
        LeftCorner x = Grammars.catalan(5);
        x.clearInput();
        Grammars.repeat(x, 4, 0);
        Check.due("parse() by the old rules", x.parse(), 5);
    }

    private static void everyLength() {
        for (int n = 0; n <= 12; n++) {
            LeftCorner x = withTokens(n);
            Check.due("inputLength()", x.inputLength(), n);
            x.addToken(5);
            x.addRule(0, 8, NONE, NONE);
            x.parse();
            x.selectTree(0);
            Check.due("inputLength() after other calls", x.inputLength(), n);
        }
        LeftCorner full = withTokens(12);
        full.addToken(0);
        Check.due("inputLength() after a token too many", full.inputLength(), 12);
    }

    private static void lengthChangesNothing() {
        Situations.changesNothing("inputLength()", LeftCorner::inputLength);
    }

    private static void tokenNumbers() {
        for (int t = 0; t < 8; t++) {
            LeftCorner x = new LeftCorner(1, 8);
            Grammars.repeat(x, 11, t);
            Grammars.tokens(x, 7 - t);
            for (int i = 0; i < 12; i++) {
                Check.due("inputToken(" + i + ")", x.inputToken(i), i < 11 ? t : 7 - t);
            }
        }
    }

    private static void noSuchPosition() {
        for (int n = 0; n <= 12; n++) {
            LeftCorner x = withTokens(n);
            for (int i = n; i < 40; i++) {
                Check.due("inputToken(" + i + ") of " + n, x.inputToken(i), NONE);
            }
            for (int i : FAR) {
                Check.due("inputToken(" + i + ") of " + n, x.inputToken(i), NONE);
            }
        }
    }

    private static void readingChangesNothing() {
        for (int i : new int[] {-1, 0, 3, 11, 12}) {
            Situations.changesNothing("inputToken(" + i + ")", x -> x.inputToken(i));
        }
    }
}

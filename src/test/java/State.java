import java.util.ArrayList;
import java.util.List;
import java.util.function.Function;
import java.util.function.IntUnaryOperator;

/** All that can be read of an object, for tests that a call changes nothing else. */
final class State {
    /** What one kind of call tells of an object. */
    static final List<Function<LeftCorner, List<Integer>>> VIEWS = List.of(
        x -> List.of(x.ruleCount()),
        State::ruleSymbols,
        State::links,
        x -> List.of(x.inputLength()),
        x -> answers(x::inputToken, LeftCorner.MAX_INPUT),
        x -> List.of(x.count()),
        x -> List.of(x.selectedRank()),
        x -> answers(x::nodeRule, 200),
        x -> answers(x::nodeStart, 200),
        x -> answers(x::nodeEnd, 200),
        x -> answers(x::nodeDepth, 200),
        x -> answers(x::selectTree, 30),
        x -> List.of(x.parse()),
        x -> List.of(x.addToken(1)),
        x -> List.of(x.addRule(1, 8, 9, 0)));

    private State() {
    }

    static List<Integer> of(LeftCorner x) {
        List<Integer> state = new ArrayList<>(rules(x));
        state.addAll(input(x));
        state.add(x.count());
        state.addAll(selection(x));
        return state;
    }

    static List<Integer> rules(LeftCorner x) {
        List<Integer> rules = new ArrayList<>(ruleSymbols(x));
        rules.add(x.ruleCount());
        return rules;
    }

    static List<Integer> input(LeftCorner x) {
        List<Integer> input = new ArrayList<>(answers(x::inputToken, LeftCorner.MAX_INPUT));
        input.add(x.inputLength());
        return input;
    }

    static List<Integer> selection(LeftCorner x) {
        List<Integer> selection = new ArrayList<>();
        selection.add(x.selectedRank());
        selection.addAll(answers(x::nodeRule, 200));
        selection.addAll(answers(x::nodeStart, 200));
        selection.addAll(answers(x::nodeEnd, 200));
        selection.addAll(answers(x::nodeDepth, 200));
        return selection;
    }

    static List<Integer> links(LeftCorner x) {
        List<Integer> links = new ArrayList<>();
        for (int a = -1; a < 17; a++) {
            for (int b = -1; b < 17; b++) {
                links.add(x.isLeftCorner(a, b) ? 1 : 0);
            }
        }
        return links;
    }

    private static List<Integer> ruleSymbols(LeftCorner x) {
        List<Integer> symbols = new ArrayList<>();
        for (int r = -1; r <= LeftCorner.MAX_RULES; r++) {
            for (int pos = -1; pos <= 4; pos++) {
                symbols.add(x.ruleSymbol(r, pos));
            }
        }
        return symbols;
    }

    private static List<Integer> answers(IntUnaryOperator call, int last) {
        List<Integer> answers = new ArrayList<>();
        for (int i = -1; i <= last; i++) {
            answers.add(call.applyAsInt(i));
        }
        return answers;
    }
}

import java.util.ArrayList;
import java.util.List;

/** All that can be read of an object, for tests that a call changes nothing else. */
final class State {
    private State() {
    }

    static List<Integer> of(LeftCorner x) {
        List<Integer> state = new ArrayList<>(rules(x));
        state.addAll(input(x));
        state.add(x.count());
        state.addAll(selection(x));
        return state;
    }

    static List<Integer> rules(LeftCorner x) {
        List<Integer> rules = new ArrayList<>();
        rules.add(x.ruleCount());
        for (int r = -1; r <= LeftCorner.MAX_RULES; r++) {
            for (int pos = -1; pos <= 4; pos++) {
                rules.add(x.ruleSymbol(r, pos));
            }
        }
        return rules;
    }

    static List<Integer> input(LeftCorner x) {
        List<Integer> input = new ArrayList<>();
        input.add(x.inputLength());
        for (int i = -1; i <= LeftCorner.MAX_INPUT; i++) {
            input.add(x.inputToken(i));
        }
        return input;
    }

    static List<Integer> selection(LeftCorner x) {
        List<Integer> selection = new ArrayList<>();
        selection.add(x.selectedRank());
        for (int k = -1; k < 200; k++) {
            selection.add(x.nodeRule(k));
            selection.add(x.nodeStart(k));
            selection.add(x.nodeEnd(k));
            selection.add(x.nodeDepth(k));
        }
        return selection;
    }
}

import java.util.List;
import java.util.function.Consumer;
import java.util.function.Function;

/** An object in each of the states that the document tells apart, for what must hold in all of them. */
final class Situations {
    static final int NONTERMINALS = 2;
    static final int TERMINALS = 2;
    static final int NUMBER = 15;

    private static final int MOST_SELECTED = 60;

    private Situations() {
    }

    static String name(int which) {
        return List.of("fresh", "rules, no input", "input, no rules", "not parsed", "empty input parsed",
            "parsed without a tree", "parsed", "first tree selected", "last tree selected", "saturated",
            "full of rules, selected", "full of tokens, selected", "input cleared", "parsed, then a rule more",
            "full of both, not parsed")
            .get(which);
    }

    /** The same calls each time, so that two objects of one situation are alike. */
    static LeftCorner make(int which) {
        switch (which) {
            case 0: return new LeftCorner(NONTERMINALS, TERMINALS);
            case 1: return sums(0);
            case 2: return onlyInput();
            case 3: return sums(4);
            case 4: return parsed(sums(0), 0);
            case 5: return parsed(onlyInput(), 0);
            case 6: return parsed(sums(4), 5);
            case 7: return selected(sums(4), 5, 0);
            case 8: return selected(sums(4), 5, 4);
            case 9: return parsed(manyTrees(), LeftCorner.CAP);
            case 10: return selected(fullOfRules(3), 16, 15);
            case 11: return selected(sums(12), 58786, 12345);
            case 12: return cleared(selected(sums(4), 5, 3));
            case 13: return changed(selected(sums(4), 5, 3));
            default: return fullOfRules(12);
        }
    }

    /** Makes the call in every situation; nothing may be otherwise than without it. */
    static void changesNothing(String call, Consumer<LeftCorner> made) {
        for (int which = 0; which < NUMBER; which++) {
            String what = name(which) + ", after " + call;
            for (Function<LeftCorner, List<Integer>> view : State.VIEWS) {
                // On new objects each time, since a view that changes something could hide it from the next.
                LeftCorner x = make(which);
                made.accept(x);
                Check.due(what, view.apply(x), view.apply(make(which)));
            }
            LeftCorner x = make(which);
            made.accept(x);
            alike(what, x, make(which));
        }
    }

    /** Reads all of both, then lets both go on, for what can't be read may still show later. */
    static void alike(String what, LeftCorner x, LeftCorner twin) {
        Check.due(what, State.of(x), State.of(twin));
        Check.due(what + ", links", State.links(x), State.links(twin));
        int count = twin.count();
        for (int rank = 0; rank < count && count < LeftCorner.CAP; rank += 1 + count / MOST_SELECTED) {
            Check.due(what + ", selectTree(" + rank + ")", x.selectTree(rank), twin.selectTree(rank));
            Check.due(what + ", tree " + rank, State.selection(x), State.selection(twin));
        }
        Check.due(what + ", parse()", x.parse(), twin.parse());
        Check.due(what + ", parsed", State.of(x), State.of(twin));
        Check.due(what + ", addToken(1)", x.addToken(1), twin.addToken(1));
        Check.due(what + ", addRule(1, 9)", x.addRule(1, 9, -1, -1), twin.addRule(1, 9, -1, -1));
        Check.due(what + ", parse() with more", x.parse(), twin.parse());
        Check.due(what + ", selectTree(0) with more", x.selectTree(0), twin.selectTree(0));
        Check.due(what + ", all with more", State.of(x), State.of(twin));
    }

    /** S -> S S | A, A -> a over n times a. */
    private static LeftCorner sums(int n) {
        LeftCorner x = new LeftCorner(NONTERMINALS, TERMINALS);
        Grammars.rule(x, 0, 0, 0);
        Grammars.rule(x, 0, 1);
        Grammars.rule(x, 1, 8);
        Grammars.repeat(x, n, 0);
        return x;
    }

    private static LeftCorner onlyInput() {
        LeftCorner x = new LeftCorner(NONTERMINALS, TERMINALS);
        Grammars.tokens(x, 0, 1, 0);
        return x;
    }

    private static LeftCorner manyTrees() {
        LeftCorner x = sums(10);
        Grammars.copies(x, 9, 1, 8);
        return x;
    }

    private static LeftCorner fullOfRules(int n) {
        LeftCorner x = sums(n);
        Grammars.copies(x, LeftCorner.MAX_RULES - 4, 1, 9);
        Grammars.rule(x, 1, 8);
        return x;
    }

    private static LeftCorner parsed(LeftCorner x, int want) {
        Check.due("parse()", x.parse(), want);
        return x;
    }

    private static LeftCorner selected(LeftCorner x, int count, int rank) {
        parsed(x, count);
        Check.due("selectTree(" + rank + ") is accepted", x.selectTree(rank) > 0, true);
        return x;
    }

    private static LeftCorner cleared(LeftCorner x) {
        x.clearInput();
        return x;
    }

    private static LeftCorner changed(LeftCorner x) {
        Grammars.rule(x, 0, 8, 8);
        return x;
    }
}

import java.math.BigInteger;
import java.util.ArrayList;
import java.util.Arrays;
import java.util.HashMap;
import java.util.List;
import java.util.Map;
import java.util.TreeSet;

/**
 * A second LeftCorner, slow and plain, that follows the document word by word: it counts in big
 * numbers, and it selects a tree by listing all trees and sorting them by their signatures.
 */
final class Model {
    private final int nonterminals;
    private final int terminals;
    private final List<int[]> rules = new ArrayList<>();
    private final List<Integer> input = new ArrayList<>();
    private boolean parsed;
    private BigInteger exact = BigInteger.ZERO;
    private List<List<int[]>> listed;
    private int rank = -1;
    private final Map<List<Integer>, BigInteger> counts = new HashMap<>();

    Model(int nonterminals, int terminals) {
        this.nonterminals = Math.max(1, Math.min(8, nonterminals));
        this.terminals = Math.max(1, Math.min(8, terminals));
    }

    /** A parsed model with the rules and the input of x, whatever its numbers of symbols. */
    static Model of(LeftCorner x) {
        Model model = new Model(8, 8);
        for (int r = 0; r < x.ruleCount(); r++) {
            model.addRule(x.ruleSymbol(r, 0), x.ruleSymbol(r, 1), x.ruleSymbol(r, 2), x.ruleSymbol(r, 3));
        }
        for (int i = 0; i < x.inputLength(); i++) {
            model.addToken(x.inputToken(i));
        }
        model.parse();
        return model;
    }

    /** N itself, where count() saturates. */
    BigInteger exactCount() {
        return exact;
    }

    int addRule(int lhs, int a, int b, int c) {
        if (!isNonterminal(lhs) || !isValid(a) || b != -1 && !isValid(b) || c != -1 && !isValid(c) || b == -1 && c != -1) {
            return -2;
        }
        if (rules.size() == 24) {
            return -3;
        }
        if (b == -1 && isNonterminal(a) && reachesByUnitRules(a, lhs)) {
            return -4;
        }
        int[] all = {lhs, a, b, c};
        rules.add(Arrays.copyOf(all, b == -1 ? 2 : c == -1 ? 3 : 4));
        change();
        return rules.size() - 1;
    }

    int ruleCount() {
        return rules.size();
    }

    int ruleSymbol(int r, int pos) {
        return r < 0 || r >= rules.size() || pos < 0 || pos >= rules.get(r).length ? -1 : rules.get(r)[pos];
    }

    boolean isLeftCorner(int a, int b) {
        if (!isNonterminal(a) || !isValid(b)) {
            return false;
        }
        TreeSet<Integer> seen = new TreeSet<>();
        addCorners(a, seen);
        return seen.contains(b);
    }

    int addToken(int t) {
        if (t < 0 || t >= terminals) {
            return -2;
        }
        if (input.size() == 12) {
            return -3;
        }
        input.add(t);
        change();
        return input.size();
    }

    void clearInput() {
        input.clear();
        change();
    }

    int inputLength() {
        return input.size();
    }

    int inputToken(int i) {
        return i < 0 || i >= input.size() ? -1 : input.get(i);
    }

    int parse() {
        change();
        parsed = true;
        exact = input.isEmpty() ? BigInteger.ZERO : trees(0, 0, input.size());
        return count();
    }

    int count() {
        return parsed ? exact.min(BigInteger.valueOf(1000000)).intValueExact() : -5;
    }

    /** Whether there are few enough trees to list. */
    boolean canList(int most) {
        return parsed && exact.compareTo(BigInteger.valueOf(most)) <= 0;
    }

    int selectTree(int k) {
        if (!parsed) {
            return -5;
        }
        if (count() == 1000000 || k < 0 || k >= count()) {
            return -6;
        }
        if (listed == null) {
            listed = list(0, 0, input.size());
            listed.sort((one, other) -> Arrays.compare(signature(one), signature(other)));
        }
        rank = k;
        return listed.get(k).size();
    }

    int selectedRank() {
        return rank;
    }

    int nodeRule(int k) {
        return isNode(k) ? node(k)[0] : -1;
    }

    int nodeStart(int k) {
        return isNode(k) ? node(k)[1] : -1;
    }

    int nodeEnd(int k) {
        return isNode(k) ? node(k)[2] : -1;
    }

    int nodeDepth(int k) {
        return isNode(k) ? node(k)[3] : -1;
    }

    private boolean isNode(int k) {
        return rank >= 0 && k >= 0 && k < listed.get(rank).size();
    }

    private int[] node(int k) {
        return listed.get(rank).get(k);
    }

    private void change() {
        parsed = false;
        listed = null;
        rank = -1;
        counts.clear();
    }

    private boolean isNonterminal(int code) {
        return code >= 0 && code < nonterminals;
    }

    private boolean isValid(int code) {
        return isNonterminal(code) || code >= 8 && code < 8 + terminals;
    }

    private boolean reachesByUnitRules(int from, int to) {
        if (from == to) {
            return true;
        }
        for (int[] rule : rules) {
            if (rule[0] == from && rule.length == 2 && rule[1] < 8 && reachesByUnitRules(rule[1], to)) {
                return true;
            }
        }
        return false;
    }

    private void addCorners(int symbol, TreeSet<Integer> seen) {
        if (seen.add(symbol)) {
            for (int[] rule : rules) {
                if (rule[0] == symbol) {
                    addCorners(rule[1], seen);
                }
            }
        }
    }

    private BigInteger trees(int symbol, int s, int e) {
        if (symbol >= 8) {
            return e == s + 1 && input.get(s) == symbol - 8 ? BigInteger.ONE : BigInteger.ZERO;
        }
        List<Integer> key = List.of(symbol, s, e);
        BigInteger known = counts.get(key);
        if (known != null) {
            return known;
        }
        BigInteger sum = BigInteger.ZERO;
        for (int[] rule : rules) {
            if (rule[0] == symbol) {
                sum = sum.add(sequences(rule, 1, s, e));
            }
        }
        counts.put(key, sum);
        return sum;
    }

    /** The sequences of children for the symbols of a rule from pos on, over [s, e). */
    private BigInteger sequences(int[] rule, int pos, int s, int e) {
        if (pos == rule.length - 1) {
            return s < e ? trees(rule[pos], s, e) : BigInteger.ZERO;
        }
        BigInteger sum = BigInteger.ZERO;
        for (int middle = s + 1; middle < e; middle++) {
            sum = sum.add(trees(rule[pos], s, middle).multiply(sequences(rule, pos + 1, middle, e)));
        }
        return sum;
    }

    /** Every tree of a symbol over [s, e), each as its nodes in preorder: rule, start, end, depth. */
    private List<List<int[]>> list(int symbol, int s, int e) {
        List<List<int[]>> all = new ArrayList<>();
        if (symbol >= 8) {
            all.add(List.of());
            return all;
        }
        for (int r = 0; r < rules.size(); r++) {
            if (rules.get(r)[0] == symbol && sequences(rules.get(r), 1, s, e).signum() > 0) {
                for (List<int[]> below : listSequences(rules.get(r), 1, s, e)) {
                    List<int[]> tree = new ArrayList<>();
                    tree.add(new int[] {r, s, e, 0});
                    for (int[] node : below) {
                        tree.add(new int[] {node[0], node[1], node[2], node[3] + 1});
                    }
                    all.add(tree);
                }
            }
        }
        return all;
    }

    private List<List<int[]>> listSequences(int[] rule, int pos, int s, int e) {
        if (pos == rule.length - 1) {
            return list(rule[pos], s, e);
        }
        List<List<int[]>> all = new ArrayList<>();
        for (int middle = s + 1; middle < e; middle++) {
            // Parts that no tree uses may be far too many to list.
            if (trees(rule[pos], s, middle).signum() > 0 && sequences(rule, pos + 1, middle, e).signum() > 0) {
                for (List<int[]> first : list(rule[pos], s, middle)) {
                    for (List<int[]> rest : listSequences(rule, pos + 1, middle, e)) {
                        List<int[]> both = new ArrayList<>(first);
                        both.addAll(rest);
                        all.add(both);
                    }
                }
            }
        }
        return all;
    }

    private static int[] signature(List<int[]> tree) {
        int[] signature = new int[2 * tree.size()];
        for (int k = 0; k < tree.size(); k++) {
            signature[2 * k] = tree.get(k)[2] - tree.get(k)[1];
            signature[2 * k + 1] = tree.get(k)[0];
        }
        return signature;
    }
}

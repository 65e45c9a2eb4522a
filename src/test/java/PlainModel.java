import java.util.ArrayList;
import java.util.Arrays;
import java.util.List;

/** The document word by word: every tree is written out, and every answer is read from the written trees. */
final class PlainModel {
    static final int TOO_MANY = 4000;

    /** A WORD rule has its word in b. */
    record Rule(boolean pair, int a, int b, int c, int cost) {
    }

    private record Tree(int cost, int used, List<Integer> list) {
    }

    private final Rule[] rules = new Rule[8];
    private final List<Integer> row = new ArrayList<>();

    int add(boolean pair, int a, int b, int c, int cost) {
        if (a < 0 || a > 2 || b < 0 || b > 2 || c < 0 || c > 2 || cost < 0 || cost > 50) {
            return -1;
        }
        int k = Arrays.asList(rules).indexOf(null);
        if (k < 0) {
            return -2;
        }
        rules[k] = new Rule(pair, a, b, c, cost);
        return k;
    }

    Rule rule(int k) {
        return rules[k];
    }

    int wordAt(int place) {
        return row.get(place);
    }

    boolean there(int k) {
        return k >= 0 && k < 8 && rules[k] != null;
    }

    boolean drop(int k) {
        boolean was = there(k);
        if (was) {
            rules[k] = null;
        }
        return was;
    }

    boolean price(int k, int cost) {
        boolean can = there(k) && cost >= 0 && cost <= 50;
        if (can) {
            rules[k] = new Rule(rules[k].pair, rules[k].a, rules[k].b, rules[k].c, cost);
        }
        return can;
    }

    int rules() {
        int bits = 0;
        for (int k = 0; k < 8; k++) {
            bits += there(k) ? 1 << k : 0;
        }
        return bits;
    }

    boolean say(int w) {
        return w >= 0 && w <= 2 && row.size() < 5 && row.add(w);
    }

    int unsay() {
        return row.isEmpty() ? -1 : row.remove(row.size() - 1);
    }

    int length() {
        return row.size();
    }

    boolean span(int i, int j) {
        return 0 <= i && i < j && j <= row.size();
    }

    /** How many trees there are; it keeps the tests from writing out millions. */
    long count(int i, int j, int a) {
        if (!span(i, j)) {
            return 0;
        }
        long sum = 0;
        for (Rule r : rules) {
            if (r == null || r.a != a) {
                continue;
            }
            if (!r.pair) {
                sum += j == i + 1 && row.get(i) == r.b ? 1 : 0;
                continue;
            }
            for (int m = i + 1; m < j; m++) {
                sum += count(i, m, r.b) * count(m, j, r.c);
            }
        }
        return sum;
    }

    private List<Tree> write(int i, int j, int a) {
        List<Tree> all = new ArrayList<>();
        for (int k = 0; k < 8; k++) {
            Rule r = rules[k];
            if (r == null || r.a != a) {
                continue;
            }
            if (!r.pair && j == i + 1 && row.get(i) == r.b) {
                all.add(new Tree(r.cost, 1 << k, List.of(k)));
            }
            for (int m = i + 1; r.pair && m < j; m++) {
                join(all, k, m, write(i, m, r.b), write(m, j, r.c));
            }
        }
        return all;
    }

    private void join(List<Tree> all, int k, int m, List<Tree> lefts, List<Tree> rights) {
        for (Tree left : lefts) {
            for (Tree right : rights) {
                List<Integer> list = new ArrayList<>(List.of(k, m));
                list.addAll(left.list);
                list.addAll(right.list);
                all.add(new Tree(rules[k].cost + left.cost + right.cost, 1 << k | left.used | right.used, list));
            }
        }
    }

    private List<Tree> trees(int i, int j, int a) {
        return span(i, j) ? write(i, j, a) : List.of();
    }

    int spanCost(int i, int j, int a, int k) {
        int[] costs = trees(i, j, a).stream().mapToInt(Tree::cost).sorted().toArray();
        return k >= 0 && k <= 7 && k < costs.length ? costs[k] : -1;
    }

    int bestAt(int a, int k) {
        Tree best = null;
        for (Tree tree : trees(0, row.size(), a)) {
            boolean better = best == null || tree.cost < best.cost
                || tree.cost == best.cost && less(tree.list, best.list);
            best = better ? tree : best;
        }
        return best != null && k >= 0 && k < best.list.size() ? best.list.get(k) : -1;
    }

    private static boolean less(List<Integer> one, List<Integer> other) {
        int[] x = one.stream().mapToInt(n -> n).toArray();
        int[] y = other.stream().mapToInt(n -> n).toArray();
        return Arrays.compare(x, y) < 0;
    }

    int costWith(int a, int k) {
        if (!there(k)) {
            return -1;
        }
        return trees(0, row.size(), a).stream()
            .filter(tree -> (tree.used >> k & 1) == 1).mapToInt(Tree::cost).min().orElse(-1);
    }
}

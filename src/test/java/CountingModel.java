import java.util.ArrayList;
import java.util.Arrays;
import java.util.List;

/** What PlainModel cannot write out, because there are millions of trees: it counts the trees of each cost instead. */
final class CountingModel {
    static final int NO_RULE = -1;
    // Five words make nine rules, each of at most 50.
    private static final int COSTS = 9 * 50 + 1;

    private record Best(int cost, int[] list) {
    }

    private final PlainModel plain;
    private final int length;
    private final long[][][][] all;

    CountingModel(PlainModel plain) {
        this.plain = plain;
        length = plain.length();
        all = counts(NO_RULE);
    }

    /** The numbers of trees by start, end, symbol and cost; the trees that use one rule can be left out. */
    private long[][][][] counts(int leftOut) {
        long[][][][] counts = new long[length][length + 1][3][COSTS];
        for (int width = 1; width <= length; width++) {
            for (int i = 0; i + width <= length; i++) {
                for (int k = 0; k < 8; k++) {
                    if (k != leftOut && plain.there(k)) {
                        count(counts, plain.rule(k), i, i + width);
                    }
                }
            }
        }
        return counts;
    }

    private void count(long[][][][] counts, PlainModel.Rule rule, int i, int j) {
        long[] sums = counts[i][j][rule.a()];
        if (!rule.pair()) {
            sums[rule.cost()] += j == i + 1 && plain.wordAt(i) == rule.b() ? 1 : 0;
            return;
        }
        for (int m = i + 1; m < j; m++) {
            long[] lefts = counts[i][m][rule.b()];
            long[] rights = counts[m][j][rule.c()];
            for (int x = 0; x < COSTS; x++) {
                for (int y = 0; lefts[x] > 0 && y < COSTS; y++) {
                    if (rights[y] > 0) {
                        sums[rule.cost() + x + y] += lefts[x] * rights[y];
                    }
                }
            }
        }
    }

    long trees(int i, int j, int a) {
        return Arrays.stream(all[i][j][a]).sum();
    }

    int spanCost(int i, int j, int a, int k) {
        long before = 0;
        for (int cost = 0; cost < COSTS; cost++) {
            before += all[i][j][a][cost];
            if (k < before) {
                return cost;
            }
        }
        return -1;
    }

    /** For each symbol the least cost of which there are more trees with the rule than without. */
    int[] costsWith(int k) {
        long[][] whole = all[0][length];
        long[][] rest = counts(k)[0][length];
        int[] least = {-1, -1, -1};
        for (int a = 0; a < 3; a++) {
            for (int cost = COSTS - 1; cost >= 0; cost--) {
                least[a] = whole[a][cost] > rest[a][cost] ? cost : least[a];
            }
        }
        return least;
    }

    /** For each symbol the list of the best tree, empty when there is none. */
    int[][] bestLists() {
        Best[][][] bests = new Best[length][length + 1][3];
        for (int width = 1; width <= length; width++) {
            for (int i = 0; i + width <= length; i++) {
                for (int k = 0; k < 8; k++) {
                    for (Best made : plain.there(k) ? madeBy(k, bests, i, i + width) : List.<Best>of()) {
                        Best[] of = bests[i][i + width];
                        int a = plain.rule(k).a();
                        of[a] = of[a] == null || better(made, of[a]) ? made : of[a];
                    }
                }
            }
        }
        int[][] lists = new int[3][];
        for (int a = 0; a < 3; a++) {
            Best best = bests[0][length][a];
            lists[a] = best == null ? new int[0] : best.list;
        }
        return lists;
    }

    private List<Best> madeBy(int k, Best[][][] bests, int i, int j) {
        PlainModel.Rule rule = plain.rule(k);
        List<Best> made = new ArrayList<>();
        if (!rule.pair() && j == i + 1 && plain.wordAt(i) == rule.b()) {
            made.add(new Best(rule.cost(), new int[] {k}));
        }
        for (int m = i + 1; rule.pair() && m < j; m++) {
            Best left = bests[i][m][rule.b()];
            Best right = bests[m][j][rule.c()];
            if (left != null && right != null) {
                int[] list = new int[2 + left.list.length + right.list.length];
                list[0] = k;
                list[1] = m;
                System.arraycopy(left.list, 0, list, 2, left.list.length);
                System.arraycopy(right.list, 0, list, 2 + left.list.length, right.list.length);
                made.add(new Best(rule.cost() + left.cost + right.cost, list));
            }
        }
        return made;
    }

    private static boolean better(Best one, Best other) {
        return one.cost != other.cost ? one.cost < other.cost : Arrays.compare(one.list, other.list) < 0;
    }
}

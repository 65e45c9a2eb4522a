/** Promises 10 to 15 where there are very many trees: every answer about a row of five words, beside CountingModel. */
public final class CountingModelTest {
    private static final int RUNS = 600;
    private static final int WORDS = 5;

    private static final Picks PICKS = new Picks(20261116);

    private static int run;
    private static long mostTrees;

    private static void due(String call, long got, long want) {
        Check.due("run " + run + ": " + call, got, want);
    }

    public static void main(String[] args) {
        for (run = 0; run < RUNS; run++) {
            ParseRanker x = new ParseRanker();
            PlainModel plain = new PlainModel();
            fill(x, plain);
            CountingModel model = new CountingModel(plain);
            // 13 calls so far; those that follow are 441, so that no object is asked more than 512 times.
            askSpans(x, model);
            askWhole(x, model);
        }
        Check.due("there were rows with a million trees", mostTrees > 1_000_000, true);
        Check.end();
    }

    // Eight rules, as many PAIR as WORD ones or nearly so, and few symbols, words and costs: all this makes many trees.
    private static void fill(ParseRanker x, PlainModel plain) {
        int symbols = 1 + run % 3;
        int words = 1 + run / 3 % 2;
        int costs = new int[] {1, 2, 7, 51}[run / 6 % 4];
        int pairs = 3 + PICKS.below(3);
        for (int n = 0; n < 8; n++) {
            int a = PICKS.below(symbols);
            int b = PICKS.below(symbols);
            int c = PICKS.below(symbols);
            int w = PICKS.below(words);
            int cost = 50 - PICKS.below(costs);
            if (n < pairs) {
                due("pair", x.pair(Check.abc(a, b, c), cost), plain.add(true, a, b, c, cost));
            } else {
                due("word", x.word(a, w, cost), plain.add(false, a, w, 0, cost));
            }
        }
        for (int n = 0; n < WORDS; n++) {
            int w = PICKS.below(words);
            due("say", x.say(w) ? 1 : 0, plain.say(w) ? 1 : 0);
        }
    }

    private static void askSpans(ParseRanker x, CountingModel model) {
        for (int i = 0; i < WORDS; i++) {
            for (int j = i + 1; j <= WORDS; j++) {
                int bits = 0;
                for (int a = 0; a < 3; a++) {
                    bits |= model.trees(i, j, a) > 0 ? 1 << a : 0;
                    for (int k = 0; k < (j - i < WORDS ? 8 : 0); k++) {
                        String call = "spanCost(" + i + ", " + j + ", " + a + ", " + k + ")";
                        due(call, x.spanCost(i, j, a, k), model.spanCost(i, j, a, k));
                    }
                }
                due("symbols(" + i + ", " + j + ")", x.symbols(i, j), bits);
            }
        }
    }

    private static void askWhole(ParseRanker x, CountingModel model) {
        int[][] lists = model.bestLists();
        for (int a = 0; a < 3; a++) {
            long trees = model.trees(0, WORDS, a);
            mostTrees = Math.max(mostTrees, trees);
            due("trees(" + a + ")", x.trees(a), Math.min(8, trees));
            for (int k = 0; k < 13; k++) {
                int want = k < lists[a].length ? lists[a][k] : ParseRanker.NONE;
                due("bestAt(" + a + ", " + k + ")", x.bestAt(a, k), want);
            }
        }
        for (int k = 0; k < 8; k++) {
            int[] with = model.costsWith(k);
            for (int a = 0; a < 3; a++) {
                due("cost(" + a + ", " + k + ")", x.cost(a, k), model.spanCost(0, WORDS, a, k));
                due("costWith(" + a + ", " + k + ")", x.costWith(a, k), with[a]);
            }
        }
    }
}

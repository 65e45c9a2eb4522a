/** All promises: long runs of mixed calls, each answer beside that of PlainModel. */
public final class PlainModelTest {
    private static final int RUNS = 800;
    // A step makes at most two calls, so that no object is asked more than 512 times.
    private static final int STEPS = 250;

    private static final Picks PICKS = new Picks(20261115);

    private static ParseRanker x;
    private static PlainModel model;
    private static int greatestCost;
    private static int symbols;
    private static int run;

    private static int pick(int bound) {
        return PICKS.below(bound);
    }

    /** A number from 0 to bound - 1, and now and then one outside. */
    private static int pickNear(int bound) {
        int n = pick(40);
        if (n == 0) {
            return -1 - pick(3);
        }
        return n == 1 ? bound + pick(3) : pick(bound);
    }

    private static void due(String call, long got, long want) {
        Check.due("run " + run + ": " + call, got, want);
    }

    private static void due(String call, boolean got, boolean want) {
        Check.due("run " + run + ": " + call, got, want);
    }

    public static void main(String[] args) {
        for (run = 0; run < RUNS; run++) {
            x = new ParseRanker();
            model = new PlainModel();
            // Few different costs make many equal ones, few symbols make many trees.
            greatestCost = new int[] {0, 1, 4, 50}[run % 4];
            symbols = 1 + run / 4 % 3;
            for (int step = 0; step < STEPS; step++) {
                if (pick(3) == 0) {
                    change();
                } else {
                    ask();
                }
            }
        }
        Check.end();
    }

    private static int pickCost() {
        int cost = pickNear(greatestCost + 1);
        return cost > greatestCost ? 51 : cost;
    }

    private static void change() {
        int what = pick(12);
        int k = pickNear(8);
        if (what < 2) {
            addPair(pickCost());
        } else if (what < 4) {
            addWord(pickCost());
        } else if (what < 5) {
            due("drop(" + k + ")", x.drop(k), model.drop(k));
        } else if (what < 7) {
            int cost = pickCost();
            due("price(" + k + ", " + cost + ")", x.price(k, cost), model.price(k, cost));
        } else if (what < 10) {
            int w = pickNear(3) % (symbols + 1);
            due("say(" + w + ")", x.say(w), model.say(w));
        } else {
            due("unsay()", x.unsay(), model.unsay());
        }
    }

    private static void addPair(int cost) {
        int a = pick(symbols);
        int b = pick(symbols);
        int c = pickNear(symbols);
        // A b of 3 is the one wrong b that abc can hold.
        b = pick(40) == 0 ? 3 : b;
        int abc = Check.abc(a, b, c);
        due("pair(" + abc + ", " + cost + ")", x.pair(abc, cost), model.add(true, a, b, c, cost));
    }

    private static void addWord(int cost) {
        int a = pickNear(symbols);
        int w = pickNear(3);
        due("word(" + a + ", " + w + ", " + cost + ")", x.word(a, w, cost), model.add(false, a, w, 0, cost));
    }

    private static void ask() {
        int what = pick(8);
        int a = pickNear(symbols);
        int k = pickNear(8);
        int n = model.length();
        if (what == 0) {
            due("length()", x.length(), n);
            due("rules()", x.rules(), model.rules());
        } else if (what == 1) {
            askSpan(a, k);
        } else if (what == 2) {
            due("trees(" + a + ")", x.trees(a), Math.min(8, model.count(0, n, a)));
        } else if (model.count(0, n, a) > PlainModel.TOO_MANY) {
            due("trees(" + a + ")", x.trees(a), 8);
        } else if (what == 3 || what == 4) {
            due("cost(" + a + ", " + k + ")", x.cost(a, k), model.spanCost(0, n, a, k));
        } else if (what == 5 || what == 6) {
            int place = pickNear(Math.max(1, 3 * n - 2));
            due("bestAt(" + a + ", " + place + ")", x.bestAt(a, place), model.bestAt(a, place));
        } else {
            due("costWith(" + a + ", " + k + ")", x.costWith(a, k), model.costWith(a, k));
        }
    }

    private static void askSpan(int a, int k) {
        int i = pickNear(5);
        int j = i + pickNear(6);
        int bits = 0;
        for (int s = 0; s < 3; s++) {
            bits += model.count(i, j, s) > 0 ? 1 << s : 0;
        }
        due("symbols(" + i + ", " + j + ")", x.symbols(i, j), bits);
        if (model.count(i, j, a) <= PlainModel.TOO_MANY) {
            String call = "spanCost(" + i + ", " + j + ", " + a + ", " + k + ")";
            due(call, x.spanCost(i, j, a, k), model.spanCost(i, j, a, k));
        }
    }
}

/** Promises 1 to 6 and 16: a new object, and the rules that come, change and go. */
public final class RulesTest {
    private static final int[] FAR = {Integer.MIN_VALUE, Integer.MIN_VALUE + 1, -65, -64, -16, -4, -1, 64, 65, 256,
        1 << 30, Integer.MAX_VALUE - 1, Integer.MAX_VALUE};

    public static void main(String[] args) {
        newObject();
        pairForms();
        pairWrong();
        wordForms();
        wordWrong();
        costEdges();
        leastFreeNumber();
        noneBeforeFull();
        dropTakesAway();
        dropWrong();
        priceChanges();
        priceWrong();
        objectsStandAlone();
        Check.end();
    }

    private static void newObject() {
        ParseRanker x = new ParseRanker();
        Check.due("rules()", x.rules(), 0);
        Check.due("length()", x.length(), 0);
        Check.due("unsay()", x.unsay(), ParseRanker.NONE);
        for (int k = -1; k <= 8; k++) {
            Check.due("drop(" + k + ")", x.drop(k), false);
            Check.due("price(" + k + ", 1)", x.price(k, 1), false);
        }
    }

    private static void pairForms() {
        for (int abc = -70; abc <= 200; abc++) {
            boolean fits = false;
            for (int n = 0; n < 27; n++) {
                fits |= abc == Check.abc(n % 3, n / 3 % 3, n / 9);
            }
            ParseRanker x = new ParseRanker();
            Check.due("pair(" + abc + ", 7)", x.pair(abc, 7), fits ? 0 : ParseRanker.NONE);
            Check.due("rules() after pair(" + abc + ", 7)", x.rules(), fits ? 1 : 0);
        }
        for (int n = 0; n < 27; n++) {
            pairMeans(n % 3, n / 3 % 3, n / 9);
        }
    }

    // Word w is symbol w alone, so that the rule of the pair shows over just one row of two words.
    private static void pairMeans(int a, int b, int c) {
        ParseRanker x = new ParseRanker();
        x.pair(Check.abc(a, b, c), 7);
        for (int s = 0; s < 3; s++) {
            x.word(s, s, 1);
        }
        for (int n = 0; n < 9; n++) {
            Check.say(x, n / 3, n % 3);
            boolean fits = n / 3 == b && n % 3 == c;
            Check.due("symbols(0, 2)", x.symbols(0, 2), fits ? 1 << a : 0);
            Check.due("cost(" + a + ", 0)", x.cost(a, 0), fits ? 9 : ParseRanker.NONE);
            x.unsay();
            x.unsay();
        }
    }

    private static void pairWrong() {
        ParseRanker x = new ParseRanker();
        for (int far : FAR) {
            Check.due("pair(" + far + ", 0)", x.pair(far, 0), ParseRanker.NONE);
        }
        Check.due("rules()", x.rules(), 0);
    }

    private static void wordForms() {
        for (int n = 0; n < 9; n++) {
            ParseRanker x = new ParseRanker();
            Check.due("word", x.word(n / 3, n % 3, 5), 0);
            Check.due("rules()", x.rules(), 1);
            for (int w = 0; w < 3; w++) {
                Check.say(x, w);
                Check.due("symbols(0, 1)", x.symbols(0, 1), w == n % 3 ? 1 << n / 3 : 0);
                x.unsay();
            }
        }
    }

    private static void wordWrong() {
        ParseRanker x = new ParseRanker();
        for (int bad : new int[] {-1, 3, 4, Integer.MIN_VALUE, Integer.MAX_VALUE}) {
            Check.due("word(" + bad + ", 0, 0)", x.word(bad, 0, 0), ParseRanker.NONE);
            Check.due("word(0, " + bad + ", 0)", x.word(0, bad, 0), ParseRanker.NONE);
        }
        Check.due("rules()", x.rules(), 0);
    }

    private static void costEdges() {
        for (int cost : new int[] {Integer.MIN_VALUE, -1, 51, 52, Integer.MAX_VALUE}) {
            ParseRanker x = new ParseRanker();
            Check.due("pair(0, " + cost + ")", x.pair(0, cost), ParseRanker.NONE);
            Check.due("word(0, 0, " + cost + ")", x.word(0, 0, cost), ParseRanker.NONE);
            Check.due("rules()", x.rules(), 0);
        }
        for (int cost : new int[] {0, 1, 49, 50}) {
            ParseRanker x = new ParseRanker();
            Check.due("pair(0, " + cost + ")", x.pair(0, cost), 0);
            Check.due("word(0, 0, " + cost + ")", x.word(0, 0, cost), 1);
            Check.say(x, 0, 0);
            Check.costs(x, 0, 3 * cost);
        }
    }

    private static void leastFreeNumber() {
        ParseRanker x = new ParseRanker();
        for (int k = 0; k < 8; k++) {
            int got = k % 2 == 0 ? x.pair(0, k) : x.word(0, 0, k);
            Check.due("rule " + k, got, k);
            Check.due("rules()", x.rules(), (1 << k + 1) - 1);
        }
        x.drop(6);
        x.drop(1);
        x.drop(3);
        Check.due("rules()", x.rules(), 0b10110101);
        Check.due("word(1, 1, 1)", x.word(1, 1, 1), 1);
        Check.due("pair(21, 1)", x.pair(21, 1), 3);
        Check.due("rules()", x.rules(), 0b10111111);
        Check.due("pair(21, 1)", x.pair(21, 1), 6);
        Check.due("rules()", x.rules(), 255);
    }

    private static void noneBeforeFull() {
        ParseRanker x = new ParseRanker();
        for (int k = 0; k < 8; k++) {
            x.word(0, 0, 10 + k);
        }
        Check.due("pair(0, 0)", x.pair(0, 0), ParseRanker.FULL);
        Check.due("word(0, 0, 0)", x.word(0, 0, 0), ParseRanker.FULL);
        Check.due("pair(3, 0)", x.pair(3, 0), ParseRanker.NONE);
        Check.due("pair(64, 0)", x.pair(64, 0), ParseRanker.NONE);
        Check.due("pair(0, 51)", x.pair(0, 51), ParseRanker.NONE);
        Check.due("word(3, 0, 0)", x.word(3, 0, 0), ParseRanker.NONE);
        Check.due("word(0, -1, 0)", x.word(0, -1, 0), ParseRanker.NONE);
        Check.due("word(0, 0, -1)", x.word(0, 0, -1), ParseRanker.NONE);
        Check.due("rules()", x.rules(), 255);
        Check.say(x, 0);
        Check.costs(x, 0, 10, 11, 12, 13, 14, 15, 16, 17);
        Check.say(x, 0);
        Check.costs(x, 0);
    }

    private static void dropTakesAway() {
        ParseRanker x = new ParseRanker();
        x.pair(0, 1);
        x.word(0, 0, 2);
        x.word(0, 0, 3);
        Check.say(x, 0, 0);
        Check.costs(x, 0, 5, 6, 6, 7);
        Check.due("drop(1)", x.drop(1), true);
        Check.due("drop(1)", x.drop(1), false);
        Check.due("rules()", x.rules(), 0b101);
        Check.costs(x, 0, 7);
        Check.due("price(1, 4)", x.price(1, 4), false);
        Check.due("costWith(0, 1)", x.costWith(0, 1), ParseRanker.NONE);
        Check.due("drop(0)", x.drop(0), true);
        Check.due("rules()", x.rules(), 0b100);
        Check.costs(x, 0);
        // Number 0 was a PAIR rule: nothing of it may stay.
        Check.due("word(0, 0, 9)", x.word(0, 0, 9), 0);
        Check.costs(x, 0);
        x.unsay();
        Check.costs(x, 0, 3, 9);
    }

    private static void dropWrong() {
        ParseRanker x = new ParseRanker();
        for (int k = 0; k < 8; k++) {
            x.word(0, 0, k);
        }
        for (int k : new int[] {-1, 8, 9, 32, -32, Integer.MIN_VALUE, Integer.MAX_VALUE}) {
            Check.due("drop(" + k + ")", x.drop(k), false);
            Check.due("rules()", x.rules(), 255);
        }
        for (int k = 0; k < 8; k++) {
            Check.due("drop(" + k + ")", x.drop(k), true);
            Check.due("rules()", x.rules(), 255 << k + 1 & 255);
        }
    }

    private static void priceChanges() {
        ParseRanker x = new ParseRanker();
        x.pair(0, 1);
        x.word(0, 0, 2);
        Check.say(x, 0, 0);
        Check.costs(x, 0, 5);
        Check.due("price(0, 50)", x.price(0, 50), true);
        Check.costs(x, 0, 54);
        Check.due("price(1, 0)", x.price(1, 0), true);
        Check.costs(x, 0, 50);
        Check.due("price(1, 0)", x.price(1, 0), true);
        Check.due("rules()", x.rules(), 3);
    }

    private static void priceWrong() {
        ParseRanker x = new ParseRanker();
        x.word(0, 0, 2);
        Check.say(x, 0);
        for (int cost : new int[] {-1, 51, Integer.MIN_VALUE, Integer.MAX_VALUE}) {
            Check.due("price(0, " + cost + ")", x.price(0, cost), false);
        }
        for (int k : new int[] {-1, 1, 7, 8, 32, Integer.MIN_VALUE, Integer.MAX_VALUE}) {
            Check.due("price(" + k + ", 5)", x.price(k, 5), false);
        }
        Check.costs(x, 0, 2);
        Check.due("rules()", x.rules(), 1);
    }

    private static void objectsStandAlone() {
        ParseRanker x = new ParseRanker();
        ParseRanker y = new ParseRanker();
        x.word(0, 0, 2);
        Check.say(x, 0);
        Check.due("rules() of another", y.rules(), 0);
        Check.due("length() of another", y.length(), 0);
    }
}

/** Promises 2 to 6: the rules that come, change and go (RuleEdgesTest has the boundary cases). */
public final class RulesTest {
    public static void main(String[] args) {
        pairForms();
        wordForms();
        leastFreeNumber();
        dropTakesAway();
        priceChanges();
        theRuleGetsTheNumber();
        objectsStandAlone();
        objectsAskedInTurn();
        Check.end();
    }

    private static void pairForms() {
        for (int n = 0; n < 27; n++) {
            pairMeans(n % 3, n / 3 % 3, n / 9);
        }
    }

    // Word w is symbol w alone, so that the rule of the pair shows over just one row of two words.
    private static void pairMeans(int a, int b, int c) {
        ParseRanker x = new ParseRanker();
        x.pair(Check.abc(a, b, c), 7);
        for (int s = 0; s < 3; s++) {
            x.word(s, s, 1);
        }
        for (int n = 0; n < 9; n++) {
            Check.say(x, n / 3, n % 3);
            boolean fits = n / 3 == b && n % 3 == c;
            Check.due("symbols(0, 2)", x.symbols(0, 2), fits ? 1 << a : 0);
            Check.due("cost(" + a + ", 0)", x.cost(a, 0), fits ? 9 : ParseRanker.NONE);
            x.unsay();
            x.unsay();
        }
    }

    private static void wordForms() {
        for (int n = 0; n < 9; n++) {
            ParseRanker x = new ParseRanker();
            Check.due("word", x.word(n / 3, n % 3, 5), 0);
            Check.due("rules()", x.rules(), 1);
            for (int w = 0; w < 3; w++) {
                Check.say(x, w);
                Check.due("symbols(0, 1)", x.symbols(0, 1), w == n % 3 ? 1 << n / 3 : 0);
                x.unsay();
            }
        }
    }

    private static void leastFreeNumber() {
        ParseRanker x = new ParseRanker();
        for (int k = 0; k < 8; k++) {
            int got = k % 2 == 0 ? x.pair(0, k) : x.word(0, 0, k);
            Check.due("rule " + k, got, k);
            Check.due("rules()", x.rules(), (1 << k + 1) - 1);
        }
        x.drop(6);
        x.drop(1);
        x.drop(3);
        Check.due("rules()", x.rules(), 0b10110101);
        Check.due("word(1, 1, 1)", x.word(1, 1, 1), 1);
        Check.due("pair(21, 1)", x.pair(21, 1), 3);
        Check.due("rules()", x.rules(), 0b10111111);
        Check.due("pair(21, 1)", x.pair(21, 1), 6);
        Check.due("rules()", x.rules(), 255);
    }

    private static void dropTakesAway() {
        ParseRanker x = new ParseRanker();
        x.pair(0, 1);
        x.word(0, 0, 2);
        x.word(0, 0, 3);
        Check.say(x, 0, 0);
        Check.costs(x, 0, 5, 6, 6, 7);
        Check.due("drop(1)", x.drop(1), true);
        Check.due("drop(1)", x.drop(1), false);
        Check.due("rules()", x.rules(), 0b101);
        Check.costs(x, 0, 7);
        Check.due("price(1, 4)", x.price(1, 4), false);
        Check.due("costWith(0, 1)", x.costWith(0, 1), ParseRanker.NONE);
        Check.due("drop(0)", x.drop(0), true);
        Check.due("rules()", x.rules(), 0b100);
        Check.costs(x, 0);
        // Number 0 was a PAIR rule: nothing of it may stay.
        Check.due("word(0, 0, 9)", x.word(0, 0, 9), 0);
        Check.costs(x, 0);
        x.unsay();
        Check.costs(x, 0, 3, 9);
    }

    private static void priceChanges() {
        ParseRanker x = new ParseRanker();
        x.pair(0, 1);
        x.word(0, 0, 2);
        Check.say(x, 0, 0);
        Check.costs(x, 0, 5);
        Check.due("price(0, 50)", x.price(0, 50), true);
        Check.costs(x, 0, 54);
        Check.due("price(1, 0)", x.price(1, 0), true);
        Check.costs(x, 0, 50);
        Check.due("price(1, 0)", x.price(1, 0), true);
        Check.due("rules()", x.rules(), 3);
    }

    // What pair and word answer is the number that all other calls know the rule by.
    private static void theRuleGetsTheNumber() {
        ParseRanker x = new ParseRanker();
        for (int k = 0; k < 8; k++) {
            x.word(2, 2, 0);
        }
        x.drop(5);
        x.drop(2);
        Check.due("word(0, 0, 4)", x.word(0, 0, 4), 2);
        Check.due("pair(0, 1)", x.pair(0, 1), 5);
        Check.say(x, 0, 0);
        Check.best(x, 0, 5, 1, 2, 2);
        Check.due("costWith(0, 2)", x.costWith(0, 2), 9);
        Check.due("costWith(0, 5)", x.costWith(0, 5), 9);
        Check.due("price(2, 10)", x.price(2, 10), true);
        Check.costs(x, 0, 21);
        Check.due("price(5, 30)", x.price(5, 30), true);
        Check.costs(x, 0, 50);
        Check.due("drop(5)", x.drop(5), true);
        Check.costs(x, 0);
        Check.due("spanCost(1, 2, 0, 0)", x.spanCost(1, 2, 0, 0), 10);
        Check.due("drop(2)", x.drop(2), true);
        Check.due("spanCost(1, 2, 0, 0)", x.spanCost(1, 2, 0, 0), ParseRanker.NONE);
        Check.due("rules()", x.rules(), 0b11011011);
    }

    private static void objectsStandAlone() {
        ParseRanker x = new ParseRanker();
        ParseRanker y = new ParseRanker();
        x.word(0, 0, 2);
        Check.say(x, 0);
        Check.due("rules() of another", y.rules(), 0);
        Check.due("length() of another", y.length(), 0);
    }

    private static void objectsAskedInTurn() {
        ParseRanker x = Edges.chain(3);
        ParseRanker y = Edges.everything(2);
        for (int n = 0; n < 3; n++) {
            Check.costs(x, 0, 13, 13);
            Check.costs(y, 1, 7);
            Check.best(x, 0, 0, 1, 1, 0, 2, 1, 1);
            Check.best(y, 2, 5, 1, 0, 0);
            Check.due("costWith(0, 1)", x.costWith(0, 1), 13);
            Check.due("costWith(0, 1) of another", y.costWith(0, 1), ParseRanker.NONE);
            Check.due("symbols(0, 2)", x.symbols(0, 2), 1);
            Check.due("symbols(0, 2) of another", y.symbols(0, 2), 7);
        }
    }
}

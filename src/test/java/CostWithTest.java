/** Promise 15: the least cost of a tree that uses a rule (TreeEdgesTest has the boundary cases). */
public final class CostWithTest {
    public static void main(String[] args) {
        oneWord();
        dearRuleAnywhere();
        leftAndRight();
        farBelowTheEight();
        ruleThatNoTreeUses();
        Check.end();
    }

    private static void with(ParseRanker x, int a, int k, int want) {
        Check.due("costWith(" + a + ", " + k + ")", x.costWith(a, k), want);
    }

    private static void oneWord() {
        ParseRanker x = new ParseRanker();
        x.word(0, 0, 5);
        x.word(0, 0, 0);
        x.word(1, 0, 1);
        x.word(0, 1, 2);
        with(x, 0, 0, ParseRanker.NONE);
        Check.say(x, 0);
        with(x, 0, 0, 5);
        with(x, 0, 1, 0);
        with(x, 0, 2, ParseRanker.NONE);
        with(x, 0, 3, ParseRanker.NONE);
        with(x, 1, 2, 1);
        x.unsay();
        with(x, 0, 0, ParseRanker.NONE);
    }

    private static void dearRuleAnywhere() {
        ParseRanker x = new ParseRanker();
        x.pair(0, 1);
        x.pair(0, 30);
        x.word(0, 0, 2);
        x.word(0, 0, 40);
        Check.say(x, 0, 0, 0, 0, 0);
        with(x, 0, 0, 14);
        with(x, 0, 1, 43);
        with(x, 0, 2, 14);
        with(x, 0, 3, 52);
        x.price(3, 41);
        with(x, 0, 3, 53);
    }

    // Only one of both parts can hold the rule, once the left one and once the right one.
    private static void leftAndRight() {
        ParseRanker x = new ParseRanker();
        x.pair(Check.abc(0, 1, 2), 3);
        x.word(1, 0, 4);
        x.word(1, 0, 10);
        x.word(2, 1, 5);
        x.word(2, 1, 20);
        Check.say(x, 0, 1);
        with(x, 0, 0, 12);
        with(x, 0, 1, 12);
        with(x, 0, 2, 18);
        with(x, 0, 3, 12);
        with(x, 0, 4, 27);
        with(x, 1, 1, ParseRanker.NONE);
    }

    private static void farBelowTheEight() {
        ParseRanker x = new ParseRanker();
        x.pair(0, 0);
        x.word(0, 0, 0);
        x.word(0, 0, 0);
        x.word(0, 0, 0);
        x.word(0, 0, 50);
        x.pair(0, 49);
        Check.say(x, 0, 0, 0);
        Check.due("cost(0, 7)", x.cost(0, 7), 0);
        with(x, 0, 4, 50);
        with(x, 0, 5, 49);
        x.drop(1);
        with(x, 0, 1, ParseRanker.NONE);
        with(x, 0, 4, 50);
    }

    private static void ruleThatNoTreeUses() {
        ParseRanker x = new ParseRanker();
        x.pair(Check.abc(0, 1, 1), 0);
        x.word(1, 0, 0);
        x.pair(Check.abc(1, 0, 2), 0);
        x.word(2, 2, 0);
        x.pair(Check.abc(2, 1, 1), 0);
        Check.say(x, 0, 0);
        with(x, 0, 0, 0);
        with(x, 0, 1, 0);
        with(x, 0, 2, ParseRanker.NONE);
        with(x, 0, 3, ParseRanker.NONE);
        with(x, 0, 4, ParseRanker.NONE);
        with(x, 2, 4, 0);
        with(x, 2, 0, ParseRanker.NONE);
        with(x, 1, 2, ParseRanker.NONE);
    }
}

/** Promise 13: the list of the best tree (TreeEdgesTest has the boundary cases). */
public final class BestTest {
    public static void main(String[] args) {
        oneWord();
        leastCostGoesBeforeLeastList();
        leastRuleThenLeastPlace();
        dearFirstPlace();
        placesCountFromTheRow();
        fiveWords();
        Check.end();
    }

    private static void oneWord() {
        ParseRanker x = new ParseRanker();
        x.word(1, 0, 5);
        x.word(1, 0, 3);
        x.word(1, 0, 3);
        Check.say(x, 0);
        Check.best(x, 1, 1);
        x.price(1, 5);
        Check.best(x, 1, 2);
        x.price(2, 5);
        Check.best(x, 1, 0);
        x.drop(0);
        Check.best(x, 1, 1);
    }

    private static void leastCostGoesBeforeLeastList() {
        ParseRanker x = new ParseRanker();
        x.pair(Check.abc(0, 1, 1), 2);
        x.pair(Check.abc(0, 2, 2), 1);
        x.word(1, 0, 0);
        x.word(2, 0, 0);
        Check.say(x, 0, 0);
        Check.best(x, 0, 1, 1, 3, 3);
        x.price(1, 2);
        Check.best(x, 0, 0, 1, 2, 2);
        x.price(3, 1);
        x.price(1, 0);
        Check.best(x, 0, 0, 1, 2, 2);
    }

    private static void leastRuleThenLeastPlace() {
        ParseRanker x = new ParseRanker();
        x.pair(Check.abc(0, 1, 0), 1);
        x.pair(Check.abc(0, 0, 1), 1);
        x.word(0, 0, 1);
        x.word(1, 0, 1);
        Check.say(x, 0, 0, 0);
        Check.best(x, 0, 0, 1, 3, 0, 2, 3, 2);
        x.drop(0);
        Check.best(x, 0, 1, 2, 1, 1, 2, 3, 3);
        x.pair(0, 1);
        Check.best(x, 0, 0, 1, 2, 0, 2, 2, 2);
    }

    // Rule 0 has the least place only at a dearer cost; at the least cost it has a later place.
    private static void dearFirstPlace() {
        ParseRanker x = new ParseRanker();
        x.pair(0, 0);
        x.pair(0, 0);
        x.pair(Check.abc(0, 1, 1), 0);
        x.word(0, 0, 10);
        x.word(0, 1, 1);
        x.word(1, 0, 2);
        Check.say(x, 0, 0, 1);
        Check.costs(x, 0, 5, 5, 21, 21, 21, 21, 21, 21);
        Check.best(x, 0, 0, 2, 2, 1, 5, 5, 4);
        x.price(0, 1);
        Check.best(x, 0, 1, 2, 2, 1, 5, 5, 4);
    }

    private static void placesCountFromTheRow() {
        ParseRanker x = new ParseRanker();
        x.word(1, 0, 0);
        x.pair(Check.abc(0, 1, 0), 0);
        x.word(0, 1, 0);
        Check.say(x, 0, 0, 0, 0, 1);
        Check.best(x, 0, 1, 1, 0, 1, 2, 0, 1, 3, 0, 1, 4, 0, 2);
    }

    private static void fiveWords() {
        ParseRanker x = new ParseRanker();
        x.word(0, 0, 0);
        x.pair(Check.abc(0, 0, 1), 0);
        x.word(1, 1, 0);
        x.pair(Check.abc(2, 0, 0), 7);
        Check.say(x, 0, 1, 1, 0, 1);
        Check.best(x, 2, 3, 3, 1, 2, 1, 1, 0, 2, 2, 1, 4, 0, 2);
        Check.best(x, 0);
        Check.best(x, 1);
        x.unsay();
        Check.best(x, 2, 3, 3, 1, 2, 1, 1, 0, 2, 2, 0);
    }
}

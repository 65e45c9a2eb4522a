/** Promises 7 to 9: the row of words (RowEdgesTest has the boundary cases). */
public final class RowTest {
    public static void main(String[] args) {
        sayAndUnsay();
        unsaidWordsDoNotCount();
        Check.end();
    }

    private static void sayAndUnsay() {
        ParseRanker x = new ParseRanker();
        Check.due("length()", x.length(), 0);
        int[] words = {2, 0, 1, 1, 2};
        for (int n = 0; n < 5; n++) {
            Check.say(x, words[n]);
            Check.due("length()", x.length(), n + 1);
        }
        for (int n = 4; n >= 0; n--) {
            Check.due("unsay()", x.unsay(), words[n]);
            Check.due("length()", x.length(), n);
        }
        Check.due("unsay()", x.unsay(), ParseRanker.NONE);
        Check.due("unsay()", x.unsay(), ParseRanker.NONE);
        Check.due("length()", x.length(), 0);
        Check.say(x, 1);
        Check.due("unsay()", x.unsay(), 1);
    }

    private static void unsaidWordsDoNotCount() {
        ParseRanker x = new ParseRanker();
        x.pair(0, 1);
        x.word(0, 0, 3);
        x.word(0, 1, 10);
        Check.say(x, 0, 0, 1);
        Check.costs(x, 0, 18, 18);
        x.unsay();
        Check.costs(x, 0, 7);
        Check.due("spanCost(1, 3, 0, 0)", x.spanCost(1, 3, 0, 0), ParseRanker.NONE);
        Check.due("symbols(1, 3)", x.symbols(1, 3), 0);
        Check.say(x, 0);
        Check.costs(x, 0, 11, 11);
        Check.due("spanCost(1, 3, 0, 0)", x.spanCost(1, 3, 0, 0), 7);
    }
}

/** Promises 10, 11, 12 and 14: the costs in order, the number of trees and the symbols of a span. */
public final class CostsTest {
    private static final int[] BAD = {-1, 3, 4, Integer.MIN_VALUE, Integer.MAX_VALUE};

    public static void main(String[] args) {
        emptyRow();
        noRules();
        likeRulesCountApart();
        equalCostsAsOftenAsTrees();
        cheapCostsComeLate();
        eightOfMore();
        numbersOfTrees();
        greatestCost();
        spans();
        wrongSpans();
        wrongSymbolsAndPlaces();
        Check.end();
    }

    private static void emptyRow() {
        ParseRanker x = new ParseRanker();
        x.pair(0, 0);
        x.word(0, 0, 0);
        Check.costs(x, 0);
        Check.due("trees(0)", x.trees(0), 0);
        Check.due("symbols(0, 0)", x.symbols(0, 0), 0);
        Check.due("symbols(0, 1)", x.symbols(0, 1), 0);
        Check.due("spanCost(0, 0, 0, 0)", x.spanCost(0, 0, 0, 0), ParseRanker.NONE);
        Check.due("spanCost(0, 1, 0, 0)", x.spanCost(0, 1, 0, 0), ParseRanker.NONE);
        Check.say(x, 0);
        Check.due("trees(0)", x.trees(0), 1);
        x.unsay();
        Check.costs(x, 0);
        Check.due("trees(0)", x.trees(0), 0);
        Check.due("symbols(0, 1)", x.symbols(0, 1), 0);
    }

    private static void noRules() {
        ParseRanker x = new ParseRanker();
        Check.say(x, 0, 1, 2, 0, 1);
        for (int a = 0; a < 3; a++) {
            Check.costs(x, a);
            Check.due("trees(" + a + ")", x.trees(a), 0);
        }
        Check.due("symbols(0, 5)", x.symbols(0, 5), 0);
        Check.due("symbols(0, 1)", x.symbols(0, 1), 0);
    }

    private static void likeRulesCountApart() {
        ParseRanker x = new ParseRanker();
        x.word(1, 2, 4);
        x.word(1, 2, 4);
        x.word(1, 2, 1);
        x.pair(Check.abc(0, 1, 1), 0);
        x.pair(Check.abc(0, 1, 1), 0);
        Check.say(x, 2);
        Check.costs(x, 1, 1, 4, 4);
        Check.due("trees(1)", x.trees(1), 3);
        Check.due("trees(0)", x.trees(0), 0);
        Check.say(x, 2);
        Check.costs(x, 0, 2, 2, 5, 5, 5, 5, 5, 5);
        Check.due("trees(0)", x.trees(0), 8);
        Check.due("trees(1)", x.trees(1), 0);
    }

    private static void equalCostsAsOftenAsTrees() {
        ParseRanker x = new ParseRanker();
        x.pair(0, 2);
        x.word(0, 0, 3);
        Check.say(x, 0, 0, 0, 0);
        Check.costs(x, 0, 18, 18, 18, 18, 18);
        Check.due("trees(0)", x.trees(0), 5);
        Check.say(x, 0);
        Check.costs(x, 0, 23, 23, 23, 23, 23, 23, 23, 23);
        Check.due("trees(0)", x.trees(0), 8);
    }

    // The cheaper a rule, the later its number: each new cost goes before all that are there.
    private static void cheapCostsComeLate() {
        ParseRanker x = new ParseRanker();
        for (int k = 0; k < 8; k++) {
            x.word(0, 0, 40 - 5 * k);
        }
        Check.say(x, 0);
        Check.costs(x, 0, 5, 10, 15, 20, 25, 30, 35, 40);
        Check.due("cost(0, 8)", x.cost(0, 8), ParseRanker.NONE);
        x.price(3, 0);
        Check.costs(x, 0, 0, 5, 10, 15, 20, 30, 35, 40);
    }

    private static void eightOfMore() {
        ParseRanker x = new ParseRanker();
        x.pair(Check.abc(0, 1, 2), 50);
        x.pair(Check.abc(0, 1, 2), 0);
        x.word(1, 0, 9);
        x.word(1, 0, 1);
        x.word(1, 0, 5);
        x.word(2, 0, 20);
        x.word(2, 0, 0);
        x.word(2, 0, 3);
        Check.say(x, 0, 0);
        Check.costs(x, 0, 1, 4, 5, 8, 9, 12, 21, 25);
        Check.due("trees(0)", x.trees(0), 8);
        x.drop(1);
        Check.costs(x, 0, 51, 54, 55, 58, 59, 62, 71, 75);
        x.drop(7);
        Check.costs(x, 0, 51, 55, 59, 71, 75, 79);
        Check.due("trees(0)", x.trees(0), 6);
    }

    private static void numbersOfTrees() {
        for (int n = 1; n <= 8; n++) {
            ParseRanker x = new ParseRanker();
            for (int k = 0; k < n; k++) {
                x.word(2, 1, k);
            }
            Check.say(x, 1);
            Check.due("trees(2)", x.trees(2), n);
            Check.due("cost(2, " + (n - 1) + ")", x.cost(2, n - 1), n - 1);
            Check.due("cost(2, " + n + ")", x.cost(2, n), ParseRanker.NONE);
        }
        ParseRanker nine = new ParseRanker();
        nine.pair(Check.abc(0, 1, 1), 0);
        for (int k = 0; k < 3; k++) {
            nine.word(1, 0, 0);
        }
        Check.say(nine, 0, 0);
        Check.due("trees(0)", nine.trees(0), 8);
    }

    private static void greatestCost() {
        ParseRanker x = new ParseRanker();
        x.pair(0, 50);
        x.word(0, 0, 50);
        Check.say(x, 0, 0, 0, 0, 0);
        Check.costs(x, 0, 450, 450, 450, 450, 450, 450, 450, 450);
    }

    private static ParseRanker spanned() {
        ParseRanker x = new ParseRanker();
        x.pair(Check.abc(0, 1, 2), 5);
        x.pair(Check.abc(2, 2, 2), 1);
        x.word(1, 1, 10);
        x.word(2, 2, 20);
        x.word(2, 2, 22);
        Check.say(x, 1, 2, 2, 1, 2);
        return x;
    }

    private static void spans() {
        ParseRanker x = spanned();
        Check.due("symbols(0, 1)", x.symbols(0, 1), 0b010);
        Check.due("symbols(1, 2)", x.symbols(1, 2), 0b100);
        Check.due("symbols(1, 3)", x.symbols(1, 3), 0b100);
        Check.due("symbols(0, 3)", x.symbols(0, 3), 0b001);
        Check.due("symbols(0, 4)", x.symbols(0, 4), 0);
        Check.due("symbols(3, 5)", x.symbols(3, 5), 0b001);
        Check.due("symbols(0, 5)", x.symbols(0, 5), 0);
        int[] wants = {56, 58, 58, 60, ParseRanker.NONE};
        for (int k = 0; k < 5; k++) {
            Check.due("spanCost(0, 3, 0, " + k + ")", x.spanCost(0, 3, 0, k), wants[k]);
        }
        Check.due("spanCost(3, 5, 0, 0)", x.spanCost(3, 5, 0, 0), 35);
        Check.due("spanCost(3, 5, 0, 1)", x.spanCost(3, 5, 0, 1), 37);
        Check.due("spanCost(3, 5, 0, 2)", x.spanCost(3, 5, 0, 2), ParseRanker.NONE);
        Check.due("spanCost(4, 5, 2, 1)", x.spanCost(4, 5, 2, 1), 22);
        Check.costs(x, 0);
    }

    private static void wrongSpans() {
        int[] places = {Integer.MIN_VALUE, -7, -6, -2, -1, 0, 1, 2, 3, 4, 5, 6, 7, 30, Integer.MAX_VALUE};
        for (int i : places) {
            // One object for all would be asked more than the 512 times that the document speaks of.
            ParseRanker x = spanned();
            for (int j : places) {
                if (0 <= i && i < j && j <= x.length()) {
                    continue;
                }
                Check.due("symbols(" + i + ", " + j + ")", x.symbols(i, j), 0);
                for (int a = 0; a < 3; a++) {
                    String call = "spanCost(" + i + ", " + j + ", " + a + ", 0)";
                    Check.due(call, x.spanCost(i, j, a, 0), ParseRanker.NONE);
                }
            }
        }
    }

    private static void wrongSymbolsAndPlaces() {
        ParseRanker x = new ParseRanker();
        for (int k = 0; k < 8; k++) {
            x.word(k % 3, 0, k);
        }
        Check.say(x, 0, 0);
        x.unsay();
        for (int a : BAD) {
            Check.due("cost(" + a + ", 0)", x.cost(a, 0), ParseRanker.NONE);
            Check.due("spanCost(0, 1, " + a + ", 0)", x.spanCost(0, 1, a, 0), ParseRanker.NONE);
            Check.due("trees(" + a + ")", x.trees(a), 0);
        }
        for (int k : new int[] {-1, -8, 8, 9, Integer.MIN_VALUE, Integer.MAX_VALUE}) {
            for (int a = 0; a < 3; a++) {
                Check.due("cost(" + a + ", " + k + ")", x.cost(a, k), ParseRanker.NONE);
                Check.due("spanCost(0, 1, " + a + ", " + k + ")", x.spanCost(0, 1, a, k), ParseRanker.NONE);
            }
        }
    }
}

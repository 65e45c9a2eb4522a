/** Promises 10, 11, 12 and 14: costs in order, numbers of trees, symbols (CostEdgesTest has the boundary cases). */
public final class CostsTest {
    public static void main(String[] args) {
        likeRulesCountApart();
        equalCostsAsOftenAsTrees();
        cheapCostsComeLate();
        eightOfMore();
        spans();
        Check.end();
    }

    private static void likeRulesCountApart() {
        ParseRanker x = new ParseRanker();
        x.word(1, 2, 4);
        x.word(1, 2, 4);
        x.word(1, 2, 1);
        x.pair(Check.abc(0, 1, 1), 0);
        x.pair(Check.abc(0, 1, 1), 0);
        Check.say(x, 2);
        Check.costs(x, 1, 1, 4, 4);
        Check.due("trees(1)", x.trees(1), 3);
        Check.due("trees(0)", x.trees(0), 0);
        Check.say(x, 2);
        Check.costs(x, 0, 2, 2, 5, 5, 5, 5, 5, 5);
        Check.due("trees(0)", x.trees(0), 8);
        Check.due("trees(1)", x.trees(1), 0);
    }

    private static void equalCostsAsOftenAsTrees() {
        ParseRanker x = new ParseRanker();
        x.pair(0, 2);
        x.word(0, 0, 3);
        Check.say(x, 0, 0, 0, 0);
        Check.costs(x, 0, 18, 18, 18, 18, 18);
        Check.due("trees(0)", x.trees(0), 5);
        Check.say(x, 0);
        Check.costs(x, 0, 23, 23, 23, 23, 23, 23, 23, 23);
        Check.due("trees(0)", x.trees(0), 8);
    }

    // The cheaper a rule, the later its number: each new cost goes before all that are there.
    private static void cheapCostsComeLate() {
        ParseRanker x = new ParseRanker();
        for (int k = 0; k < 8; k++) {
            x.word(0, 0, 40 - 5 * k);
        }
        Check.say(x, 0);
        Check.costs(x, 0, 5, 10, 15, 20, 25, 30, 35, 40);
        Check.due("cost(0, 8)", x.cost(0, 8), ParseRanker.NONE);
        x.price(3, 0);
        Check.costs(x, 0, 0, 5, 10, 15, 20, 30, 35, 40);
    }

    private static void eightOfMore() {
        ParseRanker x = new ParseRanker();
        x.pair(Check.abc(0, 1, 2), 50);
        x.pair(Check.abc(0, 1, 2), 0);
        x.word(1, 0, 9);
        x.word(1, 0, 1);
        x.word(1, 0, 5);
        x.word(2, 0, 20);
        x.word(2, 0, 0);
        x.word(2, 0, 3);
        Check.say(x, 0, 0);
        Check.costs(x, 0, 1, 4, 5, 8, 9, 12, 21, 25);
        Check.due("trees(0)", x.trees(0), 8);
        x.drop(1);
        Check.costs(x, 0, 51, 54, 55, 58, 59, 62, 71, 75);
        x.drop(7);
        Check.costs(x, 0, 51, 55, 59, 71, 75, 79);
        Check.due("trees(0)", x.trees(0), 6);
    }

    private static void spans() {
        ParseRanker x = new ParseRanker();
        x.pair(Check.abc(0, 1, 2), 5);
        x.pair(Check.abc(2, 2, 2), 1);
        x.word(1, 1, 10);
        x.word(2, 2, 20);
        x.word(2, 2, 22);
        Check.say(x, 1, 2, 2, 1, 2);
        Check.due("symbols(0, 1)", x.symbols(0, 1), 0b010);
        Check.due("symbols(1, 2)", x.symbols(1, 2), 0b100);
        Check.due("symbols(1, 3)", x.symbols(1, 3), 0b100);
        Check.due("symbols(0, 3)", x.symbols(0, 3), 0b001);
        Check.due("symbols(0, 4)", x.symbols(0, 4), 0);
        Check.due("symbols(3, 5)", x.symbols(3, 5), 0b001);
        Check.due("symbols(0, 5)", x.symbols(0, 5), 0);
        int[] wants = {56, 58, 58, 60, ParseRanker.NONE};
        for (int k = 0; k < 5; k++) {
            Check.due("spanCost(0, 3, 0, " + k + ")", x.spanCost(0, 3, 0, k), wants[k]);
        }
        Check.due("spanCost(3, 5, 0, 0)", x.spanCost(3, 5, 0, 0), 35);
        Check.due("spanCost(3, 5, 0, 1)", x.spanCost(3, 5, 0, 1), 37);
        Check.due("spanCost(3, 5, 0, 2)", x.spanCost(3, 5, 0, 2), ParseRanker.NONE);
        Check.due("spanCost(4, 5, 2, 1)", x.spanCost(4, 5, 2, 1), 22);
        Check.costs(x, 0);
    }
}

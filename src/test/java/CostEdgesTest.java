/** The boundary cases of promises 10, 11, 12 and 14, one test for each: places, spans, symbols and numbers of trees. */
public final class CostEdgesTest {
    private static final int NONE = Edges.NONE;

    public static void main(String[] args) throws ReflectiveOperationException {
        Edges.runAll(CostEdgesTest.class);
    }

    private static void cost(ParseRanker x, int a, int k, int want) {
        Check.due("cost(" + a + ", " + k + ")", x.cost(a, k), want);
    }

    private static void span(ParseRanker x, int i, int j, int a, int k, int want) {
        Check.due("spanCost(" + i + ", " + j + ", " + a + ", " + k + ")", x.spanCost(i, j, a, k), want);
    }

    private static void trees(ParseRanker x, int a, int want) {
        Check.due("trees(" + a + ")", x.trees(a), want);
    }

    private static void symbols(ParseRanker x, int i, int j, int want) {
        Check.due("symbols(" + i + ", " + j + ")", x.symbols(i, j), want);
    }

    private static void promise10FirstPlace() {
        cost(Edges.alike(8), 0, 0, 0);
    }

    private static void promise10LastPlace() {
        cost(Edges.alike(8), 0, 7, 7);
    }

    private static void promise10PlaceTooSmall() {
        ParseRanker x = Edges.everything(5);
        for (int k : Edges.tooSmall()) {
            for (int a = 0; a < 3; a++) {
                cost(x, a, k, NONE);
            }
        }
    }

    // There are more than eight trees, so that only k itself can be the reason.
    private static void promise10PlaceTooLarge() {
        ParseRanker x = Edges.everything(5);
        for (int k : Edges.tooLarge(7)) {
            for (int a = 0; a < 3; a++) {
                cost(x, a, k, NONE);
            }
        }
    }

    private static void promise10NotSoManyTrees() {
        for (int number = 1; number <= 8; number++) {
            ParseRanker x = Edges.alike(number);
            for (int k = 0; k < 8; k++) {
                cost(x, 0, k, k < number ? k : NONE);
            }
        }
    }

    // Places that more trees had filled before are not there any more.
    private static void promise10NotSoManyTreesAsThereWere() {
        ParseRanker x = Edges.alike(8);
        cost(x, 0, 7, 7);
        x.drop(0);
        cost(x, 0, 6, 7);
        cost(x, 0, 7, NONE);
        x.drop(5);
        cost(x, 0, 5, 7);
        cost(x, 0, 6, NONE);
    }

    private static void promise10NoTrees() {
        ParseRanker x = Edges.lawless();
        for (int a = 0; a < 3; a++) {
            Check.costs(x, a);
        }
    }

    private static void promise10TreesOfPartsAreNoneOfTheWhole() {
        ParseRanker x = Edges.chain(3);
        Check.say(x, 1);
        Check.costs(x, 0);
    }

    private static void promise10SymbolTooSmall() {
        ParseRanker x = Edges.everything(1);
        for (int a : Edges.tooSmall()) {
            cost(x, a, 0, NONE);
        }
    }

    private static void promise10SymbolTooLarge() {
        ParseRanker x = Edges.everything(1);
        for (int a : Edges.tooLarge(2)) {
            cost(x, a, 0, NONE);
        }
    }

    private static void promise10LeastAndGreatestSymbol() {
        ParseRanker x = Edges.everything(1);
        cost(x, 0, 0, 1);
        cost(x, 2, 0, 3);
    }

    private static void promise10EmptyRow() {
        ParseRanker x = Edges.everything(0);
        for (int a = 0; a < 3; a++) {
            Check.costs(x, a);
        }
    }

    private static void promise10RowThatWasEmptied() {
        ParseRanker x = Edges.everything(1);
        cost(x, 0, 0, 1);
        x.unsay();
        for (int a = 0; a < 3; a++) {
            Check.costs(x, a);
        }
    }

    private static void promise10EqualCostsAtTheLastPlace() {
        ParseRanker x = Edges.alike(8);
        for (int k = 0; k < 8; k++) {
            x.price(k, 50);
        }
        Check.costs(x, 0, 50, 50, 50, 50, 50, 50, 50, 50);
    }

    /** Eight trees with costs from 20 to 27 by rule 0, then eight more by rule 1, with the cost that is asked for. */
    private static ParseRanker eightAndEight(int cost) {
        ParseRanker x = new ParseRanker();
        x.pair(Check.abc(0, 1, 2), 20);
        x.pair(Check.abc(0, 1, 2), cost);
        x.word(1, 0, 0);
        x.word(1, 0, 4);
        x.word(2, 0, 0);
        x.word(2, 0, 1);
        x.word(2, 0, 2);
        x.word(2, 0, 3);
        Check.say(x, 0, 0);
        return x;
    }

    private static void promise10TheNinthTreeCostsLess() {
        Check.costs(eightAndEight(0), 0, 0, 1, 2, 3, 4, 5, 6, 7);
        Check.costs(eightAndEight(13), 0, 13, 14, 15, 16, 17, 18, 19, 20);
    }

    private static void promise10TheNinthTreeLiesBetween() {
        Check.costs(eightAndEight(20), 0, 20, 20, 21, 21, 22, 22, 23, 23);
        Check.costs(eightAndEight(26), 0, 20, 21, 22, 23, 24, 25, 26, 26);
    }

    private static void promise10TheNinthTreeCostsAsMuchOrMore() {
        Check.costs(eightAndEight(27), 0, 20, 21, 22, 23, 24, 25, 26, 27);
        Check.costs(eightAndEight(28), 0, 20, 21, 22, 23, 24, 25, 26, 27);
    }

    /** Sixteen trees for each symbol over two words; the symbols' PAIR rules come in the order that is asked for. */
    private static void sixteenEach(int... order) {
        ParseRanker x = new ParseRanker();
        for (int n = 0; n < 4; n++) {
            x.word(0, 0, n);
        }
        for (int n = 0; n < 3; n++) {
            x.pair(Check.abc(order[n], 0, 0), 30 - 10 * n);
        }
        Check.say(x, 0, 0);
        for (int n = 0; n < 3; n++) {
            int c = 30 - 10 * n;
            Check.costs(x, order[n], c, c + 1, c + 1, c + 2, c + 2, c + 2, c + 3, c + 3);
        }
    }

    // No symbol's costs may run over into another's, before or behind.
    private static void promise10EightCostsOfEachSymbol() {
        sixteenEach(0, 1, 2);
        sixteenEach(2, 1, 0);
    }

    private static void promise10LeastOfAllCosts() {
        ParseRanker x = Edges.chain(5);
        x.price(0, 0);
        x.price(1, 0);
        Check.costs(x, 0, 0, 0, 0, 0, 0, 0, 0, 0);
    }

    // Nine rules of 50: four pairs and five words.
    private static void promise10GreatestOfAllCosts() {
        ParseRanker x = Edges.chain(5);
        x.price(0, 50);
        x.price(1, 50);
        Check.costs(x, 0, 450, 450, 450, 450, 450, 450, 450, 450);
    }

    private static void promise10WrongQuestionsChangeNothing() {
        Edges.changesNothing(Edges::full, "cost(3, 0)", x -> x.cost(3, 0), NONE);
        Edges.changesNothing(Edges::full, "cost(0, 8)", x -> x.cost(0, 8), NONE);
        Edges.changesNothing(Edges::full, "cost(-1, -1)", x -> x.cost(-1, -1), NONE);
        Edges.changesNothing(Edges::silent, "cost(0, 0)", x -> x.cost(0, 0), NONE);
        Edges.changesNothing(Edges::silent, "cost(3, 8)", x -> x.cost(3, 8), NONE);
    }

    private static void promise11WrongQuestionsChangeNothing() {
        Edges.changesNothing(Edges::full, "spanCost(-1, 6, 3, 8)", x -> x.spanCost(-1, 6, 3, 8), NONE);
        Edges.changesNothing(Edges::full, "spanCost(5, 0, 0, 0)", x -> x.spanCost(5, 0, 0, 0), NONE);
        Edges.changesNothing(Edges::roomy, "spanCost(0, 5, 0, 0)", x -> x.spanCost(0, 5, 0, 0), NONE);
        Edges.changesNothing(Edges::silent, "spanCost(0, 1, 0, 0)", x -> x.spanCost(0, 1, 0, 0), NONE);
    }

    private static void promise12WrongQuestionsChangeNothing() {
        Edges.changesNothing(Edges::full, "trees(3)", x -> x.trees(3), 0);
        Edges.changesNothing(Edges::full, "trees(-1)", x -> x.trees(-1), 0);
        Edges.changesNothing(Edges::silent, "trees(0)", x -> x.trees(0), 0);
    }

    private static void promise14WrongQuestionsChangeNothing() {
        Edges.changesNothing(Edges::full, "symbols(-1, 6)", x -> x.symbols(-1, 6), 0);
        Edges.changesNothing(Edges::full, "symbols(5, 0)", x -> x.symbols(5, 0), 0);
        Edges.changesNothing(Edges::roomy, "symbols(0, 5)", x -> x.symbols(0, 5), 0);
        Edges.changesNothing(Edges::silent, "symbols(0, 1)", x -> x.symbols(0, 1), 0);
    }

    private static void promise11TheWholeRowIsTheSameAsCost() {
        ParseRanker x = Edges.full();
        for (int a = 0; a < 3; a++) {
            for (int k = -1; k <= 8; k++) {
                span(x, 0, 5, a, k, x.cost(a, k));
            }
        }
    }

    private static void promise11FirstAndLastWord() {
        ParseRanker x = Edges.full();
        span(x, 0, 1, 1, 0, 32);
        span(x, 4, 5, 0, 0, 16);
        span(x, 4, 5, 1, 0, 21);
        span(x, 4, 5, 2, 0, NONE);
    }

    private static void promise11StartTooSmall() {
        ParseRanker x = Edges.everything(5);
        for (int i : Edges.tooSmall()) {
            span(x, i, 1, 0, 0, NONE);
            span(x, i, 5, 0, 0, NONE);
            span(x, i, i + 1, 0, 0, NONE);
        }
    }

    private static void promise11StartTooLarge() {
        ParseRanker x = Edges.everything(5);
        for (int i : Edges.tooLarge(4)) {
            span(x, i, 5, 0, 0, NONE);
            span(x, i, i + 1, 0, 0, NONE);
        }
    }

    private static void promise11StartIsEnd() {
        ParseRanker x = Edges.everything(5);
        for (int i = 0; i <= 5; i++) {
            span(x, i, i, 0, 0, NONE);
        }
    }

    private static void promise11StartBehindEnd() {
        ParseRanker x = Edges.everything(5);
        for (int i = 1; i <= 5; i++) {
            for (int j = 0; j < i; j++) {
                span(x, i, j, 0, 0, NONE);
            }
        }
    }

    private static void promise11EndTooSmall() {
        ParseRanker x = Edges.everything(5);
        for (int j : Edges.tooSmall()) {
            span(x, 0, j, 0, 0, NONE);
            span(x, j - 1, j, 0, 0, NONE);
        }
    }

    private static void promise11EndTooLarge() {
        ParseRanker x = Edges.everything(5);
        for (int j : Edges.tooLarge(5)) {
            span(x, 0, j, 0, 0, NONE);
            span(x, 4, j, 0, 0, NONE);
        }
    }

    // The end is a place that a longer row has, and had.
    private static void promise11EndBehindLength() {
        for (int words = 0; words < 5; words++) {
            ParseRanker x = Edges.everything(5);
            span(x, 4, 5, 0, 0, 1);
            for (int n = 5; n > words; n--) {
                x.unsay();
            }
            for (int i = 0; i < 5; i++) {
                span(x, i, words + 1, 0, 0, NONE);
                span(x, i, 5, 0, 0, NONE);
            }
        }
    }

    private static void promise11EndIsLength() {
        for (int words = 1; words <= 5; words++) {
            span(Edges.everything(words), words - 1, words, 0, 0, 1);
            span(Edges.everything(words), 0, words, 0, 0, 5 * words - 4);
        }
    }

    private static void promise11EmptyRow() {
        ParseRanker x = Edges.everything(0);
        span(x, 0, 0, 0, 0, NONE);
        span(x, 0, 1, 0, 0, NONE);
        span(x, -1, 0, 0, 0, NONE);
    }

    private static void promise11SymbolTooSmall() {
        ParseRanker x = Edges.everything(5);
        for (int a : Edges.tooSmall()) {
            span(x, 0, 1, a, 0, NONE);
            span(x, 1, 4, a, 0, NONE);
        }
    }

    private static void promise11SymbolTooLarge() {
        ParseRanker x = Edges.everything(5);
        for (int a : Edges.tooLarge(2)) {
            span(x, 0, 1, a, 0, NONE);
            span(x, 1, 4, a, 0, NONE);
        }
    }

    private static void promise11PlaceTooSmall() {
        ParseRanker x = Edges.everything(5);
        for (int k : Edges.tooSmall()) {
            span(x, 1, 4, 0, k, NONE);
            span(x, 4, 5, 2, k, NONE);
        }
    }

    // Five words have 14 trees: more than the eight places.
    private static void promise11PlaceTooLarge() {
        ParseRanker x = Edges.everything(5);
        span(x, 0, 5, 0, 7, 21);
        for (int k : Edges.tooLarge(7)) {
            span(x, 0, 5, 0, k, NONE);
            span(x, 4, 5, 2, k, NONE);
        }
    }

    // Sixteen trees over each two words, and none over a longer span.
    private static void promise11EightOfMoreOverAPart() {
        ParseRanker x = new ParseRanker();
        x.pair(Check.abc(0, 1, 1), 10);
        for (int n = 0; n < 4; n++) {
            x.word(1, 0, n);
        }
        Check.say(x, 0, 0, 0, 0, 0);
        int[] wants = {10, 11, 11, 12, 12, 12, 13, 13};
        for (int i = 0; i < 4; i++) {
            for (int k = 0; k < 8; k++) {
                span(x, i, i + 2, 0, k, wants[k]);
            }
            span(x, i, i + 2, 0, 8, NONE);
            span(x, i, i + 2, 0, -1, NONE);
        }
        span(x, 0, 3, 0, 0, NONE);
        Check.costs(x, 0);
    }

    private static void promise11NotSoManyTrees() {
        ParseRanker x = Edges.everything(5);
        span(x, 1, 4, 0, 1, 11);
        span(x, 1, 4, 0, 2, NONE);
        span(x, 1, 5, 0, 4, 16);
        span(x, 1, 5, 0, 5, NONE);
    }

    private static void promise12NoTrees() {
        ParseRanker x = Edges.chain(3);
        Check.say(x, 1);
        for (int a = 0; a < 3; a++) {
            trees(x, a, 0);
            trees(Edges.lawless(), a, 0);
        }
    }

    private static void promise12FromOneToEight() {
        for (int number = 0; number <= 8; number++) {
            trees(Edges.alike(number), 0, number);
        }
    }

    /** A pair of words that has as many trees as the product of both numbers, each at most 4. */
    private static ParseRanker product(int left, int right) {
        ParseRanker x = new ParseRanker();
        x.pair(Check.abc(0, 1, 2), 0);
        for (int n = 0; n < left; n++) {
            x.word(1, 0, 0);
        }
        for (int n = 0; n < right; n++) {
            x.word(2, 0, 0);
        }
        Check.say(x, 0, 0);
        return x;
    }

    private static void promise12ExactlyEight() {
        trees(product(2, 4), 0, 8);
        trees(product(4, 2), 0, 8);
    }

    private static void promise12ExactlyNine() {
        trees(product(3, 3), 0, 8);
    }

    private static void promise12LessThanEight() {
        trees(product(1, 1), 0, 1);
        trees(product(2, 3), 0, 6);
        trees(product(3, 1), 0, 3);
        trees(product(3, 0), 0, 0);
    }

    // 2048 and 3670016 trees: the last bits of both numbers are all 0.
    private static void promise12FarMoreThanEight() {
        ParseRanker x = new ParseRanker();
        for (int n = 0; n < 4; n++) {
            x.pair(0, 0);
            x.word(0, 0, 0);
        }
        Check.say(x, 0, 0, 0);
        trees(x, 0, 8);
        Check.say(x, 0, 0);
        trees(x, 0, 8);
    }

    private static void promise12SymbolTooSmall() {
        ParseRanker x = Edges.everything(1);
        for (int a : Edges.tooSmall()) {
            trees(x, a, 0);
        }
    }

    private static void promise12SymbolTooLarge() {
        ParseRanker x = Edges.everything(1);
        for (int a : Edges.tooLarge(2)) {
            trees(x, a, 0);
        }
    }

    private static void promise12EmptyRow() {
        for (int a = -1; a <= 3; a++) {
            trees(Edges.everything(0), a, 0);
        }
    }

    private static void promise12RowThatWasEmptied() {
        ParseRanker x = Edges.everything(2);
        trees(x, 0, 1);
        x.unsay();
        x.unsay();
        trees(x, 0, 0);
    }

    private static void promise14NoSymbol() {
        ParseRanker x = Edges.everything(2);
        Check.say(x, 1);
        symbols(x, 2, 3, 0);
        symbols(x, 1, 3, 0);
        symbols(x, 0, 3, 0);
    }

    private static void promise14EverySymbol() {
        ParseRanker x = Edges.everything(5);
        symbols(x, 0, 1, 7);
        symbols(x, 4, 5, 7);
        symbols(x, 0, 5, 7);
    }

    private static void promise14EachSymbolAlone() {
        for (int a = 0; a < 3; a++) {
            ParseRanker x = new ParseRanker();
            x.word(a, 1, 50);
            Check.say(x, 1);
            symbols(x, 0, 1, 1 << a);
        }
    }

    // A cost of 0 is a cost: the symbol has a tree.
    private static void promise14TreesThatCostNothing() {
        ParseRanker x = Edges.chain(2);
        x.price(0, 0);
        x.price(1, 0);
        symbols(x, 0, 1, 1);
        symbols(x, 0, 2, 1);
    }

    private static void promise14StartTooSmall() {
        ParseRanker x = Edges.everything(5);
        for (int i : Edges.tooSmall()) {
            symbols(x, i, 1, 0);
            symbols(x, i, 5, 0);
            symbols(x, i, i + 1, 0);
        }
    }

    private static void promise14StartTooLarge() {
        ParseRanker x = Edges.everything(5);
        for (int i : Edges.tooLarge(4)) {
            symbols(x, i, 5, 0);
            symbols(x, i, i + 1, 0);
        }
    }

    private static void promise14EndTooSmall() {
        ParseRanker x = Edges.everything(5);
        for (int j : Edges.tooSmall()) {
            symbols(x, 0, j, 0);
            symbols(x, j - 1, j, 0);
        }
    }

    private static void promise14EndTooLarge() {
        ParseRanker x = Edges.everything(5);
        for (int j : Edges.tooLarge(5)) {
            symbols(x, 0, j, 0);
            symbols(x, 4, j, 0);
        }
    }

    private static void promise14StartIsEnd() {
        ParseRanker x = Edges.everything(5);
        for (int i = 0; i <= 5; i++) {
            symbols(x, i, i, 0);
        }
    }

    private static void promise14StartBehindEnd() {
        ParseRanker x = Edges.everything(5);
        for (int i = 1; i <= 5; i++) {
            for (int j = 0; j < i; j++) {
                symbols(x, i, j, 0);
            }
        }
    }

    private static void promise14EndBehindLength() {
        for (int words = 0; words < 5; words++) {
            ParseRanker x = Edges.everything(5);
            symbols(x, 4, 5, 7);
            for (int n = 5; n > words; n--) {
                x.unsay();
            }
            for (int i = 0; i < 5; i++) {
                symbols(x, i, words + 1, 0);
                symbols(x, i, 5, 0);
            }
        }
    }

    private static void promise14EmptyRow() {
        ParseRanker x = Edges.everything(0);
        symbols(x, 0, 0, 0);
        symbols(x, 0, 1, 0);
        symbols(x, -1, 0, 0);
    }

    private static void promise14AndPromise11EverySpanNearTheRow() {
        for (int i = -2; i <= 7; i++) {
            ParseRanker x = Edges.everything(5);
            for (int j = -2; j <= 7; j++) {
                boolean fits = 0 <= i && i < j && j <= 5;
                symbols(x, i, j, fits ? 7 : 0);
                span(x, i, j, 0, 0, fits ? 5 * (j - i) - 4 : NONE);
            }
        }
    }
}

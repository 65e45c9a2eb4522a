/** The boundary cases of promises 13 and 15, and of what the document calls a tree, one test for each. */
public final class TreeEdgesTest {
    private static final int NONE = Edges.NONE;

    public static void main(String[] args) throws ReflectiveOperationException {
        Edges.runAll(TreeEdgesTest.class);
    }

    private static void best(ParseRanker x, int a, int k, int want) {
        Check.due("bestAt(" + a + ", " + k + ")", x.bestAt(a, k), want);
    }

    private static void with(ParseRanker x, int a, int k, int want) {
        Check.due("costWith(" + a + ", " + k + ")", x.costWith(a, k), want);
    }

    private static void termsAWordRuleSpansOneWordAlone() {
        ParseRanker x = new ParseRanker();
        x.word(0, 0, 1);
        Check.say(x, 0, 0);
        Check.due("symbols(0, 1)", x.symbols(0, 1), 1);
        Check.due("symbols(1, 2)", x.symbols(1, 2), 1);
        Check.due("symbols(0, 2)", x.symbols(0, 2), 0);
    }

    // m lies between i and j, so no part of a pair is empty.
    private static void termsAPairRuleSpansTwoWordsOrMore() {
        ParseRanker x = Edges.chain(1);
        Check.costs(x, 0, 3);
        x.drop(1);
        Check.costs(x, 0);
    }

    private static void termsThePlaceNextToEitherEnd() {
        ParseRanker x = Edges.chain(5);
        x.pair(Check.abc(1, 0, 2), 0);
        x.pair(Check.abc(1, 2, 0), 0);
        x.word(2, 1, 0);
        x.unsay();
        Check.say(x, 1);
        best(x, 1, 0, 2);
        best(x, 1, 1, 4);
        for (int n = 0; n < 5; n++) {
            x.unsay();
        }
        Check.say(x, 1, 0, 0, 0, 0);
        best(x, 1, 0, 3);
        best(x, 1, 1, 1);
    }

    private static void termsLikeRulesMakeDifferentTrees() {
        ParseRanker x = Edges.chain(2);
        x.pair(0, 2);
        x.word(0, 0, 3);
        Check.costs(x, 0, 8, 8, 8, 8, 8, 8, 8, 8);
        x.drop(2);
        Check.costs(x, 0, 8, 8, 8, 8);
    }

    private static void termsARuleCountsAsOftenAsItIsUsed() {
        ParseRanker x = Edges.chain(5);
        Check.due("cost(0, 0)", x.cost(0, 0), 4 * 2 + 5 * 3);
    }

    private static void promise13LastPlaceOfTheList() {
        for (int words = 1; words <= 5; words++) {
            best(Edges.chain(words), 0, 3 * words - 3, 1);
        }
    }

    private static void promise13OnePlaceTooFar() {
        for (int words = 1; words <= 5; words++) {
            ParseRanker x = Edges.chain(words);
            for (int k = 3 * words - 2; k < 20; k++) {
                best(x, 0, k, NONE);
            }
        }
    }

    // The list of the longer row must not shine through behind the list of the shorter one.
    private static void promise13OnePlaceTooFarAfterALongerList() {
        ParseRanker x = Edges.chain(5);
        best(x, 0, 12, 1);
        for (int words = 4; words > 0; words--) {
            x.unsay();
            best(x, 0, 3 * words - 2, NONE);
            best(x, 0, 12, NONE);
        }
    }

    private static void promise13PlaceTooSmall() {
        for (int words = 1; words <= 5; words++) {
            ParseRanker x = Edges.chain(words);
            for (int k : Edges.tooSmall()) {
                best(x, 0, k, NONE);
            }
        }
    }

    private static void promise13PlaceTooLarge() {
        for (int words = 1; words <= 5; words++) {
            ParseRanker x = Edges.chain(words);
            for (int k : Edges.tooLarge(12)) {
                best(x, 0, k, NONE);
            }
        }
    }

    private static void promise13NoTree() {
        ParseRanker x = Edges.chain(3);
        Check.best(x, 1);
        Check.best(x, 2);
        Check.say(x, 1);
        Check.best(x, 0);
    }

    private static void promise13NoTreeAnyMore() {
        ParseRanker x = Edges.chain(5);
        best(x, 0, 0, 0);
        x.drop(1);
        Check.best(x, 0);
    }

    private static void promise13NoRules() {
        ParseRanker x = Edges.lawless();
        for (int a = 0; a < 3; a++) {
            Check.best(x, a);
        }
    }

    private static void promise13SymbolTooSmall() {
        ParseRanker x = Edges.everything(2);
        for (int a : Edges.tooSmall()) {
            best(x, a, 0, NONE);
        }
    }

    private static void promise13SymbolTooLarge() {
        ParseRanker x = Edges.everything(2);
        for (int a : Edges.tooLarge(2)) {
            best(x, a, 0, NONE);
        }
    }

    private static void promise13GreatestSymbol() {
        ParseRanker x = new ParseRanker();
        x.word(2, 2, 50);
        Check.say(x, 2);
        Check.best(x, 2, 0);
    }

    private static void promise13EmptyRow() {
        ParseRanker x = Edges.chain(0);
        for (int a = 0; a < 3; a++) {
            Check.best(x, a);
        }
    }

    private static void promise13RowThatWasEmptied() {
        ParseRanker x = Edges.chain(1);
        Check.best(x, 0, 1);
        x.unsay();
        Check.best(x, 0);
    }

    private static void promise13EqualCostsInTheFirstNumber() {
        ParseRanker x = new ParseRanker();
        x.pair(Check.abc(0, 2, 2), 1);
        x.pair(Check.abc(0, 1, 1), 1);
        x.word(1, 0, 1);
        x.word(2, 0, 1);
        Check.say(x, 0, 0);
        Check.best(x, 0, 0, 1, 3, 3);
    }

    private static void promise13EqualCostsInThePlace() {
        Check.best(Edges.chain(3), 0, 0, 1, 1, 0, 2, 1, 1);
    }

    private static void promise13EqualCostsInTheLeftTree() {
        ParseRanker x = new ParseRanker();
        x.word(1, 0, 1);
        x.word(1, 0, 1);
        x.word(2, 0, 1);
        x.pair(Check.abc(0, 1, 2), 1);
        Check.say(x, 0, 0);
        Check.best(x, 0, 3, 1, 0, 2);
    }

    private static void promise13EqualCostsInTheRightTree() {
        ParseRanker x = new ParseRanker();
        x.word(1, 0, 1);
        x.word(2, 0, 1);
        x.word(2, 0, 1);
        x.pair(Check.abc(0, 1, 2), 1);
        Check.say(x, 0, 0);
        Check.best(x, 0, 3, 1, 0, 1);
    }

    // At one cost more the lesser list is no longer the best one's.
    private static void promise13OneCostMore() {
        ParseRanker x = Edges.alike(3);
        x.price(0, 1);
        Check.best(x, 0, 0);
        x.price(0, 2);
        Check.best(x, 0, 1);
    }

    private static void promise13WrongQuestionsChangeNothing() {
        Edges.changesNothing(Edges::full, "bestAt(3, 0)", x -> x.bestAt(3, 0), NONE);
        Edges.changesNothing(Edges::full, "bestAt(0, 13)", x -> x.bestAt(0, 13), NONE);
        Edges.changesNothing(Edges::full, "bestAt(-1, -1)", x -> x.bestAt(-1, -1), NONE);
        Edges.changesNothing(Edges::lawless, "bestAt(0, 0)", x -> x.bestAt(0, 0), NONE);
        Edges.changesNothing(Edges::silent, "bestAt(0, 0)", x -> x.bestAt(0, 0), NONE);
    }

    private static void promise15WrongQuestionsChangeNothing() {
        Edges.changesNothing(Edges::full, "costWith(3, 0)", x -> x.costWith(3, 0), NONE);
        Edges.changesNothing(Edges::full, "costWith(0, 8)", x -> x.costWith(0, 8), NONE);
        Edges.changesNothing(Edges::full, "costWith(-1, -1)", x -> x.costWith(-1, -1), NONE);
        Edges.changesNothing(Edges::roomy, "costWith(0, 3)", x -> x.costWith(0, 3), NONE);
        Edges.changesNothing(Edges::silent, "costWith(0, 0)", x -> x.costWith(0, 0), NONE);
    }

    private static void promise15FirstAndLastRule() {
        ParseRanker x = Edges.alike(8);
        with(x, 0, 0, 0);
        with(x, 0, 7, 7);
    }

    private static void promise15NoTreeUsesTheRule() {
        ParseRanker x = Edges.chain(2);
        x.word(0, 1, 0);
        x.word(1, 0, 0);
        x.pair(Check.abc(0, 1, 2), 0);
        for (int k = 2; k < 5; k++) {
            with(x, 0, k, NONE);
        }
    }

    // Rule 2 is in a tree for symbol 1 over the first word, but in none over the whole row.
    private static void promise15OnlyATreeOfAPartUsesTheRule() {
        ParseRanker x = Edges.chain(2);
        x.word(1, 0, 0);
        Check.due("spanCost(0, 1, 1, 0)", x.spanCost(0, 1, 1, 0), 0);
        with(x, 0, 2, NONE);
        with(x, 1, 2, NONE);
    }

    // The pair's other part has a tree, with a cost that a sum could be made of.
    private static void promise15ThePairsLeftPartHasNoTree() {
        ParseRanker x = Edges.chain(2);
        x.pair(Check.abc(0, 1, 0), 0);
        with(x, 0, 2, NONE);
    }

    private static void promise15ThePairsRightPartHasNoTree() {
        ParseRanker x = Edges.chain(2);
        x.pair(Check.abc(0, 0, 1), 0);
        with(x, 0, 2, NONE);
    }

    private static void promise15TheLeastIsTheFirstOrTheLast() {
        ParseRanker x = Edges.chain(2);
        x.pair(0, 1);
        with(x, 0, 1, 7);
        x.price(2, 50);
        with(x, 0, 1, 8);
        x.price(2, 2);
        with(x, 0, 1, 8);
    }

    private static void promise15NoTreeAtAll() {
        ParseRanker x = Edges.chain(2);
        Check.say(x, 1);
        with(x, 0, 0, NONE);
        with(x, 0, 1, NONE);
    }

    private static void promise15SymbolTooSmall() {
        ParseRanker x = Edges.everything(2);
        for (int a : Edges.tooSmall()) {
            for (int k = 0; k < 6; k++) {
                with(x, a, k, NONE);
            }
        }
    }

    private static void promise15SymbolTooLarge() {
        ParseRanker x = Edges.everything(2);
        for (int a : Edges.tooLarge(2)) {
            for (int k = 0; k < 6; k++) {
                with(x, a, k, NONE);
            }
        }
    }

    private static void promise15GreatestSymbol() {
        ParseRanker x = new ParseRanker();
        x.word(2, 2, 50);
        Check.say(x, 2);
        with(x, 2, 0, 50);
    }

    private static void promise15KTooSmall() {
        ParseRanker x = Edges.alike(8);
        for (int k : Edges.tooSmall()) {
            with(x, 0, k, NONE);
        }
    }

    private static void promise15KTooLarge() {
        ParseRanker x = Edges.alike(8);
        for (int k : Edges.tooLarge(7)) {
            with(x, 0, k, NONE);
        }
    }

    private static void promise15NoRuleKYet() {
        ParseRanker x = Edges.chain(2);
        for (int k = 2; k < 8; k++) {
            with(x, 0, k, NONE);
        }
    }

    private static void promise15RuleKIsGone() {
        ParseRanker x = Edges.alike(8);
        with(x, 0, 4, 4);
        x.drop(4);
        with(x, 0, 4, NONE);
    }

    private static void promise15EmptyRow() {
        ParseRanker x = Edges.silent();
        for (int a = 0; a < 3; a++) {
            for (int k = 0; k < 8; k++) {
                with(x, a, k, NONE);
            }
        }
    }

    private static void promise15RowThatWasEmptied() {
        ParseRanker x = Edges.chain(1);
        with(x, 0, 1, 3);
        x.unsay();
        with(x, 0, 1, NONE);
    }

    private static void promise15LeastOfAllCosts() {
        ParseRanker x = Edges.chain(5);
        x.price(0, 0);
        x.price(1, 0);
        with(x, 0, 0, 0);
        with(x, 0, 1, 0);
    }

    private static void promise15GreatestOfAllCosts() {
        ParseRanker x = Edges.chain(5);
        x.price(0, 50);
        x.price(1, 50);
        with(x, 0, 0, 450);
        with(x, 0, 1, 450);
    }

    // The rule stands at the first, a middle and the last place of the row, the one word of its kind.
    private static void promise15TheRuleAtEachPlaceOfTheRow() {
        for (int place = 0; place < 5; place++) {
            ParseRanker x = Edges.chain(0);
            x.word(0, 1, 40);
            x.word(0, 1, 50);
            for (int n = 0; n < 5; n++) {
                x.say(n == place ? 1 : 0);
            }
            with(x, 0, 2, 4 * 2 + 4 * 3 + 40);
            with(x, 0, 3, 4 * 2 + 4 * 3 + 50);
        }
    }
}

import java.util.function.Supplier;

/** The boundary cases of promises 1 to 6 and 16, one test for each: no rules, eight rules, calls about rules. */
public final class RuleEdgesTest {
    private static final int NONE = Edges.NONE;
    private static final int FULL = Edges.FULL;

    public static void main(String[] args) throws ReflectiveOperationException {
        Edges.runAll(RuleEdgesTest.class);
    }

    private static void pairRefused(int abc, int cost) {
        String call = "pair(" + abc + ", " + cost + ")";
        Edges.changesNothing(ParseRanker::new, call, x -> x.pair(abc, cost), NONE);
        Edges.changesNothing(Edges::roomy, call, x -> x.pair(abc, cost), NONE);
    }

    private static void wordRefused(int a, int w, int cost) {
        String call = "word(" + a + ", " + w + ", " + cost + ")";
        Edges.changesNothing(ParseRanker::new, call, x -> x.word(a, w, cost), NONE);
        Edges.changesNothing(Edges::roomy, call, x -> x.word(a, w, cost), NONE);
    }

    private static void dropRefused(Supplier<ParseRanker> make, int k) {
        Edges.changesNothing(make, "drop(" + k + ")", x -> Edges.number(x.drop(k)), Edges.REFUSED);
    }

    private static void priceRefused(Supplier<ParseRanker> make, int k, int cost) {
        String call = "price(" + k + ", " + cost + ")";
        Edges.changesNothing(make, call, x -> Edges.number(x.price(k, cost)), Edges.REFUSED);
    }

    // The tests of refused calls are worth no more than what Edges.state can tell apart.
    private static void edgesStateShowsEveryRuleAndWord() {
        String full = Edges.state(Edges.full());
        for (int k = 0; k < 8; k++) {
            ParseRanker x = Edges.full();
            x.price(k, 49);
            Check.due("rule " + k + " shows", Edges.state(x).equals(full), false);
        }
        Check.due("the fifth word and rule 3 show", Edges.state(Edges.roomy()).equals(full), false);
        Check.due("the row ends as it was said", full.endsWith("row 0 0 2 0 1 -1"), true);
    }

    private static void documentThe512thCallIsAnswered() {
        ParseRanker x = Edges.chain(5);
        for (int call = 8; call < 512; call++) {
            Check.due("call " + call + ": cost(0, 7)", x.cost(0, 7), 23);
        }
        Check.due("call 512: bestAt(0, 12)", x.bestAt(0, 12), 1);
    }

    private static void documentThe512thCallAfterManyChanges() {
        ParseRanker x = new ParseRanker();
        for (int n = 0; n < 126; n++) {
            Check.due("word(0, 0, 9)", x.word(0, 0, 9), 0);
            Check.due("say(0)", x.say(0), true);
            Check.due("unsay()", x.unsay(), 0);
            Check.due("drop(0)", x.drop(0), true);
        }
        Check.due("call 505: pair(0, 2)", x.pair(0, 2), 0);
        Check.due("call 506: word(0, 0, 3)", x.word(0, 0, 3), 1);
        Check.say(x, 0, 0, 0, 0, 0);
        Check.due("call 512: cost(0, 7)", x.cost(0, 7), 23);
    }

    // The document tells no change of state for a question, so there is none: each answers as if it were the first.
    private static void documentQuestionsChangeNothing() {
        Edges.changesNothing(Edges::full, "rules()", ParseRanker::rules, 255);
        Edges.changesNothing(Edges::full, "length()", ParseRanker::length, 5);
        Edges.changesNothing(Edges::full, "cost(0, 0)", x -> x.cost(0, 0), 146);
        Edges.changesNothing(Edges::full, "spanCost(0, 3, 0, 0)", x -> x.spanCost(0, 3, 0, 0), 106);
        Edges.changesNothing(Edges::full, "trees(0)", x -> x.trees(0), 5);
        Edges.changesNothing(Edges::full, "bestAt(0, 12)", x -> x.bestAt(0, 12), 4);
        Edges.changesNothing(Edges::full, "symbols(0, 3)", x -> x.symbols(0, 3), 1);
        Edges.changesNothing(Edges::full, "costWith(0, 3)", x -> x.costWith(0, 3), 150);
    }

    private static void promise01NoRules() {
        ParseRanker x = new ParseRanker();
        Check.due("rules()", x.rules(), 0);
        Check.say(x, 0, 1, 2);
        Check.due("symbols(0, 1)", x.symbols(0, 1), 0);
        Check.due("symbols(1, 2)", x.symbols(1, 2), 0);
        Check.due("symbols(2, 3)", x.symbols(2, 3), 0);
        Check.due("symbols(0, 3)", x.symbols(0, 3), 0);
    }

    private static void promise01NoRuleCanBeDroppedOrPriced() {
        for (int k = 0; k < 8; k++) {
            dropRefused(ParseRanker::new, k);
            priceRefused(ParseRanker::new, k, 0);
        }
    }

    private static void promise01EmptyRow() {
        ParseRanker x = new ParseRanker();
        Check.due("length()", x.length(), 0);
        Check.due("unsay()", x.unsay(), NONE);
        Check.due("length()", x.length(), 0);
    }

    private static void promise01EveryQuestionToANewObject() {
        ParseRanker x = new ParseRanker();
        for (int a = 0; a < 3; a++) {
            Check.costs(x, a);
            Check.best(x, a);
            Check.due("trees(" + a + ")", x.trees(a), 0);
            Check.due("costWith(" + a + ", 0)", x.costWith(a, 0), NONE);
            Check.due("spanCost(0, 1, " + a + ", 0)", x.spanCost(0, 1, a, 0), NONE);
        }
        Check.due("symbols(0, 1)", x.symbols(0, 1), 0);
        Check.due("symbols(0, 0)", x.symbols(0, 0), 0);
    }

    private static void promise01ANewObjectAfterAnother() {
        Edges.full();
        ParseRanker x = new ParseRanker();
        Check.due("rules()", x.rules(), 0);
        Check.due("length()", x.length(), 0);
        Check.due("pair(0, 0)", x.pair(0, 0), 0);
    }

    private static void promise02LeastAbc() {
        ParseRanker x = new ParseRanker();
        Check.due("pair(0, 7)", x.pair(0, 7), 0);
        x.word(0, 0, 1);
        Check.say(x, 0, 0);
        Check.costs(x, 0, 9);
    }

    private static void promise02GreatestAbc() {
        ParseRanker x = new ParseRanker();
        Check.due("pair(42, 7)", x.pair(42, 7), 0);
        x.word(2, 0, 1);
        Check.say(x, 0, 0);
        Check.costs(x, 2, 9);
    }

    private static void promise02AbcTooSmall() {
        for (int abc : Edges.tooSmall()) {
            pairRefused(abc, 7);
        }
    }

    private static void promise02AbcTooLarge() {
        for (int abc : Edges.tooLarge(42)) {
            pairRefused(abc, 7);
        }
    }

    // 3 fits into two bits as 0 to 2 do, and is the one number that does so and is none of a symbol.
    private static void promise02AIsThree() {
        for (int n = 0; n < 9; n++) {
            pairRefused(Check.abc(3, n / 3, n % 3), 7);
        }
    }

    private static void promise02BIsThree() {
        for (int n = 0; n < 9; n++) {
            pairRefused(Check.abc(n / 3, 3, n % 3), 7);
        }
    }

    private static void promise02CIsThree() {
        for (int n = 0; n < 9; n++) {
            pairRefused(Check.abc(n / 3, n % 3, 3), 7);
        }
    }

    private static void promise02AbcWithABitTooMany() {
        for (int bit = 6; bit < 32; bit++) {
            pairRefused(1 << bit, 7);
            pairRefused(1 << bit | 42, 7);
        }
    }

    private static void promise02EveryAbcBetween() {
        for (int abc = 0; abc <= 42; abc++) {
            boolean fits = abc % 4 < 3 && abc / 4 % 4 < 3;
            ParseRanker x = new ParseRanker();
            Check.due("pair(" + abc + ", 7)", x.pair(abc, 7), fits ? 0 : NONE);
            Check.due("rules() after pair(" + abc + ", 7)", x.rules(), fits ? 1 : 0);
        }
    }

    private static void promise02LeastCost() {
        ParseRanker x = new ParseRanker();
        Check.due("pair(0, 0)", x.pair(0, 0), 0);
        x.word(0, 0, 1);
        Check.say(x, 0, 0);
        Check.costs(x, 0, 2);
    }

    private static void promise02GreatestCost() {
        ParseRanker x = new ParseRanker();
        Check.due("pair(0, 50)", x.pair(0, 50), 0);
        x.word(0, 0, 1);
        Check.say(x, 0, 0);
        Check.costs(x, 0, 52);
    }

    private static void promise02CostTooSmall() {
        for (int cost : Edges.tooSmall()) {
            pairRefused(0, cost);
        }
    }

    private static void promise02CostTooLarge() {
        for (int cost : Edges.tooLarge(50)) {
            pairRefused(0, cost);
        }
    }

    private static void promise02FullWhenEightRulesAreThere() {
        ParseRanker x = Edges.full();
        for (int n = 0; n < 27; n++) {
            int abc = Check.abc(n % 3, n / 3 % 3, n / 9);
            Check.due("pair(" + abc + ", 50)", x.pair(abc, 50), FULL);
        }
    }

    private static void promise02NotFullWhenSevenAreThere() {
        ParseRanker x = Edges.alike(7);
        Check.due("pair(0, 0)", x.pair(0, 0), 7);
        Check.due("pair(0, 0)", x.pair(0, 0), FULL);
    }

    private static void promise02NotFullAfterADrop() {
        ParseRanker x = Edges.full();
        Check.due("pair(0, 0)", x.pair(0, 0), FULL);
        x.drop(7);
        Check.due("pair(0, 0)", x.pair(0, 0), 7);
        Check.due("pair(0, 0)", x.pair(0, 0), FULL);
    }

    private static void promise02LeastNumberNoRuleHas() {
        for (int k = 0; k < 8; k++) {
            ParseRanker x = Edges.full();
            for (int n = 7; n >= k; n--) {
                x.drop(n);
            }
            for (int n = k; n < 8; n++) {
                Check.due("pair(0, 0)", x.pair(0, 0), n);
            }
            Check.due("pair(0, 0)", x.pair(0, 0), FULL);
        }
    }

    private static void promise03LeastAAndW() {
        ParseRanker x = new ParseRanker();
        Check.due("word(0, 0, 7)", x.word(0, 0, 7), 0);
        Check.say(x, 0);
        Check.costs(x, 0, 7);
    }

    private static void promise03GreatestAAndW() {
        ParseRanker x = new ParseRanker();
        Check.due("word(2, 2, 7)", x.word(2, 2, 7), 0);
        Check.say(x, 2);
        Check.costs(x, 2, 7);
    }

    private static void promise03ATooSmall() {
        for (int a : Edges.tooSmall()) {
            wordRefused(a, 0, 7);
        }
    }

    private static void promise03ATooLarge() {
        for (int a : Edges.tooLarge(2)) {
            wordRefused(a, 0, 7);
        }
    }

    private static void promise03WTooSmall() {
        for (int w : Edges.tooSmall()) {
            wordRefused(0, w, 7);
        }
    }

    private static void promise03WTooLarge() {
        for (int w : Edges.tooLarge(2)) {
            wordRefused(0, w, 7);
        }
    }

    private static void promise03LeastCost() {
        ParseRanker x = new ParseRanker();
        Check.due("word(1, 1, 0)", x.word(1, 1, 0), 0);
        Check.say(x, 1);
        Check.costs(x, 1, 0);
    }

    private static void promise03GreatestCost() {
        ParseRanker x = new ParseRanker();
        Check.due("word(1, 1, 50)", x.word(1, 1, 50), 0);
        Check.say(x, 1);
        Check.costs(x, 1, 50);
    }

    private static void promise03CostTooSmall() {
        for (int cost : Edges.tooSmall()) {
            wordRefused(0, 0, cost);
        }
    }

    private static void promise03CostTooLarge() {
        for (int cost : Edges.tooLarge(50)) {
            wordRefused(0, 0, cost);
        }
    }

    private static void promise03FullWhenEightRulesAreThere() {
        ParseRanker x = Edges.full();
        for (int n = 0; n < 9; n++) {
            Check.due("word(" + n / 3 + ", " + n % 3 + ", 50)", x.word(n / 3, n % 3, 50), FULL);
        }
    }

    private static void promise03NotFullWhenSevenAreThere() {
        ParseRanker x = Edges.alike(7);
        Check.due("word(0, 0, 0)", x.word(0, 0, 0), 7);
        Check.due("word(0, 0, 0)", x.word(0, 0, 0), FULL);
    }

    private static void promise03NotFullAfterADrop() {
        ParseRanker x = Edges.full();
        Check.due("word(0, 0, 0)", x.word(0, 0, 0), FULL);
        x.drop(0);
        Check.due("word(0, 0, 0)", x.word(0, 0, 0), 0);
        Check.due("word(0, 0, 0)", x.word(0, 0, 0), FULL);
    }

    private static void promise03LeastNumberNoRuleHas() {
        for (int k = 0; k < 8; k++) {
            ParseRanker x = Edges.full();
            for (int n = 0; n <= k; n++) {
                x.drop(n);
            }
            for (int n = 0; n <= k; n++) {
                Check.due("word(0, 0, 0)", x.word(0, 0, 0), n);
            }
            Check.due("word(0, 0, 0)", x.word(0, 0, 0), FULL);
        }
    }

    private static void promise04FirstAndLastRule() {
        ParseRanker x = Edges.full();
        Check.due("drop(0)", x.drop(0), true);
        Check.due("rules()", x.rules(), 0b11111110);
        Check.due("drop(7)", x.drop(7), true);
        Check.due("rules()", x.rules(), 0b01111110);
    }

    private static void promise04TheOnlyRule() {
        ParseRanker x = Edges.alike(1);
        Check.due("drop(0)", x.drop(0), true);
        Check.due("rules()", x.rules(), 0);
        Check.costs(x, 0);
    }

    private static void promise04KTooSmall() {
        for (int k : Edges.tooSmall()) {
            dropRefused(Edges::full, k);
        }
    }

    private static void promise04KTooLarge() {
        for (int k : Edges.tooLarge(7)) {
            dropRefused(Edges::full, k);
        }
    }

    private static void promise04NoRuleKYet() {
        for (int k = 3; k < 8; k++) {
            dropRefused(() -> Edges.alike(3), k);
        }
    }

    private static void promise04RuleKIsGoneAlready() {
        dropRefused(Edges::roomy, 3);
    }

    // A rule that takes a number over brings all of its own, and nothing of the one that had it.
    private static void promise04NothingStaysOfTheRule() {
        ParseRanker x = Edges.chain(2);
        x.drop(0);
        x.word(0, 1, 9);
        Check.costs(x, 0);
        x.unsay();
        Check.costs(x, 0, 3);
        x.unsay();
        Check.say(x, 1);
        Check.costs(x, 0, 9);
    }

    private static void promise05LeastCost() {
        ParseRanker x = Edges.alike(1);
        x.price(0, 1);
        Check.due("price(0, 0)", x.price(0, 0), true);
        Check.costs(x, 0, 0);
    }

    private static void promise05GreatestCost() {
        ParseRanker x = Edges.alike(1);
        Check.due("price(0, 50)", x.price(0, 50), true);
        Check.costs(x, 0, 50);
    }

    private static void promise05TheSameCost() {
        ParseRanker x = Edges.chain(1);
        Check.due("price(1, 3)", x.price(1, 3), true);
        Check.costs(x, 0, 3);
    }

    private static void promise05FirstAndLastRuleAndNoOther() {
        ParseRanker x = Edges.alike(8);
        Check.due("price(7, 20)", x.price(7, 20), true);
        Check.costs(x, 0, 0, 1, 2, 3, 4, 5, 6, 20);
        Check.due("price(0, 21)", x.price(0, 21), true);
        Check.costs(x, 0, 1, 2, 3, 4, 5, 6, 20, 21);
    }

    private static void promise05KTooSmall() {
        for (int k : Edges.tooSmall()) {
            priceRefused(Edges::full, k, 5);
        }
    }

    private static void promise05KTooLarge() {
        for (int k : Edges.tooLarge(7)) {
            priceRefused(Edges::full, k, 5);
        }
    }

    private static void promise05NoRuleKYet() {
        for (int k = 3; k < 8; k++) {
            priceRefused(() -> Edges.alike(3), k, 5);
        }
    }

    private static void promise05RuleKIsGoneAlready() {
        priceRefused(Edges::roomy, 3, 5);
    }

    private static void promise05CostTooSmall() {
        for (int cost : Edges.tooSmall()) {
            priceRefused(Edges::full, 0, cost);
            priceRefused(Edges::full, 7, cost);
        }
    }

    private static void promise05CostTooLarge() {
        for (int cost : Edges.tooLarge(50)) {
            priceRefused(Edges::full, 0, cost);
            priceRefused(Edges::full, 7, cost);
        }
    }

    private static void promise05KAndCostWrong() {
        priceRefused(Edges::full, -1, -1);
        priceRefused(Edges::full, 8, 51);
        priceRefused(Edges::full, Integer.MIN_VALUE, Integer.MIN_VALUE);
        priceRefused(Edges::full, Integer.MAX_VALUE, Integer.MAX_VALUE);
    }

    private static void promise06NoRules() {
        Check.due("rules()", new ParseRanker().rules(), 0);
        Check.due("rules()", Edges.lawless().rules(), 0);
    }

    private static void promise06EightRules() {
        Check.due("rules()", Edges.full().rules(), 255);
    }

    private static void promise06EachRuleAlone() {
        for (int k = 0; k < 8; k++) {
            ParseRanker x = Edges.full();
            for (int n = 0; n < 8; n++) {
                if (n != k) {
                    x.drop(n);
                }
            }
            Check.due("rules()", x.rules(), 1 << k);
        }
    }

    private static void promise16PairNoneBeforeFull() {
        for (int abc : Edges.outside(42)) {
            Edges.changesNothing(Edges::full, "pair(" + abc + ", 0)", x -> x.pair(abc, 0), NONE);
        }
        for (int cost : Edges.outside(50)) {
            Edges.changesNothing(Edges::full, "pair(0, " + cost + ")", x -> x.pair(0, cost), NONE);
        }
        for (int abc : new int[] {3, 12, 48, 63}) {
            Edges.changesNothing(Edges::full, "pair(" + abc + ", 0)", x -> x.pair(abc, 0), NONE);
        }
    }

    private static void promise16WordNoneBeforeFull() {
        for (int bad : Edges.outside(2)) {
            Edges.changesNothing(Edges::full, "word(" + bad + ", 0, 0)", x -> x.word(bad, 0, 0), NONE);
            Edges.changesNothing(Edges::full, "word(0, " + bad + ", 0)", x -> x.word(0, bad, 0), NONE);
        }
        for (int cost : Edges.outside(50)) {
            Edges.changesNothing(Edges::full, "word(0, 0, " + cost + ")", x -> x.word(0, 0, cost), NONE);
        }
    }

    private static void promise16PairChangesNothingWithFull() {
        for (int n = 0; n < 27; n++) {
            int abc = Check.abc(n % 3, n / 3 % 3, n / 9);
            Edges.changesNothing(Edges::full, "pair(" + abc + ", 0)", x -> x.pair(abc, 0), FULL);
        }
    }

    private static void promise16WordChangesNothingWithFull() {
        for (int n = 0; n < 9; n++) {
            int a = n / 3;
            int w = n % 3;
            Edges.changesNothing(Edges::full, "word(" + a + ", " + w + ", 0)", x -> x.word(a, w, 0), FULL);
        }
    }

    // The call before was refused with NONE: it must not have taken the number.
    private static void promise16NoneTakesNoNumber() {
        ParseRanker x = Edges.roomy();
        Check.due("pair(43, 0)", x.pair(43, 0), NONE);
        Check.due("word(3, 0, 0)", x.word(3, 0, 0), NONE);
        Check.due("pair(0, 0)", x.pair(0, 0), 3);
        Check.due("word(0, 0, 0)", x.word(0, 0, 0), FULL);
    }
}

/** The boundary cases of promises 7 to 9, one test for each: an empty row, a full one, and words that are none. */
public final class RowEdgesTest {
    private static final int NONE = Edges.NONE;

    public static void main(String[] args) throws ReflectiveOperationException {
        Edges.runAll(RowEdgesTest.class);
    }

    private static void promise07LeastWord() {
        ParseRanker x = new ParseRanker();
        Check.due("say(0)", x.say(0), true);
        Check.due("unsay()", x.unsay(), 0);
    }

    private static void promise07GreatestWord() {
        ParseRanker x = new ParseRanker();
        Check.due("say(2)", x.say(2), true);
        Check.due("unsay()", x.unsay(), 2);
    }

    private static void sayRefused(int w) {
        String call = "say(" + w + ")";
        Edges.changesNothing(ParseRanker::new, call, x -> Edges.number(x.say(w)), Edges.REFUSED);
        Edges.changesNothing(Edges::roomy, call, x -> Edges.number(x.say(w)), Edges.REFUSED);
    }

    private static void promise07WordTooSmall() {
        for (int w : Edges.tooSmall()) {
            sayRefused(w);
        }
    }

    private static void promise07WordTooLarge() {
        for (int w : Edges.tooLarge(2)) {
            sayRefused(w);
        }
    }

    private static void promise07FifthWord() {
        ParseRanker x = Edges.roomy();
        Check.due("length()", x.length(), 4);
        Check.due("say(1)", x.say(1), true);
        Check.due("length()", x.length(), 5);
        Check.due("unsay()", x.unsay(), 1);
    }

    private static void promise07FiveAreThere() {
        for (int n = 0; n < 3; n++) {
            int w = n;
            Edges.changesNothing(Edges::full, "say(" + w + ")", x -> Edges.number(x.say(w)), Edges.REFUSED);
        }
    }

    private static void promise07FiveAreThereAndTheWordIsWrong() {
        for (int w : Edges.outside(2)) {
            Edges.changesNothing(Edges::full, "say(" + w + ")", x -> Edges.number(x.say(w)), Edges.REFUSED);
        }
    }

    private static void promise07RoomAgainAfterUnsay() {
        ParseRanker x = Edges.full();
        Check.due("say(1)", x.say(1), false);
        x.unsay();
        Check.due("say(1)", x.say(1), true);
        Check.due("say(1)", x.say(1), false);
        Check.due("unsay()", x.unsay(), 1);
    }

    private static void promise08EmptyRow() {
        Edges.changesNothing(ParseRanker::new, "unsay()", ParseRanker::unsay, NONE);
        Edges.changesNothing(Edges::silent, "unsay()", ParseRanker::unsay, NONE);
    }

    private static void promise08EmptyRowAgainAndAgain() {
        ParseRanker x = new ParseRanker();
        for (int n = 0; n < 9; n++) {
            Check.due("unsay()", x.unsay(), NONE);
            Check.due("length()", x.length(), 0);
        }
        // What was asked in vain is not owed: five words have room, and each of them stays.
        Check.say(x, 0, 1, 2, 1, 0);
        Check.due("length()", x.length(), 5);
    }

    private static void promise08TheOnlyWord() {
        ParseRanker x = Edges.alike(1);
        Check.due("unsay()", x.unsay(), 0);
        Check.due("length()", x.length(), 0);
        Check.due("unsay()", x.unsay(), NONE);
    }

    private static void promise08FullRow() {
        ParseRanker x = new ParseRanker();
        int[] words = {2, 0, 1, 1, 2};
        Check.say(x, words);
        for (int n = 4; n >= 0; n--) {
            Check.due("unsay()", x.unsay(), words[n]);
        }
        Check.due("unsay()", x.unsay(), NONE);
    }

    private static void promise08RulesStay() {
        ParseRanker x = Edges.silent();
        Check.due("rules()", x.rules(), 255);
    }

    private static void promise09FromEmptyToFullAndBack() {
        ParseRanker x = new ParseRanker();
        for (int n = 0; n < 5; n++) {
            Check.due("length()", x.length(), n);
            x.say(n % 3);
        }
        for (int n = 5; n > 0; n--) {
            Check.due("length()", x.length(), n);
            x.unsay();
        }
        Check.due("length()", x.length(), 0);
    }

    private static void promise09RefusedWordsDoNotCount() {
        ParseRanker x = new ParseRanker();
        x.say(-1);
        x.say(3);
        Check.due("length()", x.length(), 0);
        for (int n = 0; n < 9; n++) {
            x.say(0);
        }
        Check.due("length()", x.length(), 5);
    }
}

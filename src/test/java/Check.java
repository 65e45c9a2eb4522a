/** Counts the answers that are not the ones that are due, and ends a test by them. */
final class Check {
    private static int wrong = 0;
    private static String heading = "";

    private Check() {
    }

    /** Names what the next calls test. */
    static void about(String what) {
        heading = what + ": ";
    }

    static void due(String call, long got, long want) {
        if (got != want) {
            wrong++;
            System.out.println(heading + call + " answered " + got + ", due is " + want);
        }
    }

    static void due(String call, boolean got, boolean want) {
        due(call, got ? 1 : 0, want ? 1 : 0);
    }

    static int abc(int a, int b, int c) {
        return a + 4 * b + 16 * c;
    }

    static void say(ParseRanker x, int... words) {
        for (int w : words) {
            due("say(" + w + ")", x.say(w), true);
        }
    }

    static void costs(ParseRanker x, int a, int... want) {
        for (int k = 0; k < 8; k++) {
            due("cost(" + a + ", " + k + ")", x.cost(a, k), k < want.length ? want[k] : ParseRanker.NONE);
        }
    }

    static void best(ParseRanker x, int a, int... want) {
        for (int k = 0; k < 16; k++) {
            due("bestAt(" + a + ", " + k + ")", x.bestAt(a, k), k < want.length ? want[k] : ParseRanker.NONE);
        }
    }

    static void end() {
        System.out.println(wrong == 0 ? "all answers are as due" : wrong + " answers are not as due");
        if (wrong != 0) {
            System.exit(1);
        }
    }
}

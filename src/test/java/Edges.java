import java.lang.reflect.InvocationTargetException;
import java.lang.reflect.Method;
import java.lang.reflect.Modifier;
import java.util.Arrays;
import java.util.Comparator;
import java.util.function.Supplier;
import java.util.function.ToIntFunction;
import java.util.stream.IntStream;

/** What the tests of boundary cases share: numbers outside of a range, and objects to refuse calls. */
final class Edges {
    static final int NONE = ParseRanker.NONE;
    static final int FULL = ParseRanker.FULL;
    static final int REFUSED = 0;

    private Edges() {
    }

    /** Runs every test of a class, so that none can be written and then forgotten. */
    static void runAll(Class<?> tests) throws ReflectiveOperationException {
        Method[] methods = tests.getDeclaredMethods();
        Arrays.sort(methods, Comparator.comparing(Method::getName));
        int ran = 0;
        for (Method method : methods) {
            int modifiers = method.getModifiers();
            boolean test = method.getParameterCount() == 0 && method.getReturnType() == void.class;
            if (test && Modifier.isStatic(modifiers) && !method.isSynthetic()) {
                Check.about(method.getName());
                method.setAccessible(true);
                call(method);
                ran++;
            }
        }
        System.out.println(ran + " boundary cases");
        Check.end();
    }

    private static void call(Method method) throws ReflectiveOperationException {
        try {
            method.invoke(null);
        } catch (InvocationTargetException thrown) {
            // Rule 7 of LANGUAGE.md: no call may throw, whatever its arguments.
            Check.due(method.getName() + " threw " + thrown.getCause(), true, false);
        }
    }

    // Those that would pass for a number from 0 up, if only their lowest bits were looked at, are among them.
    static int[] tooSmall() {
        return new int[] {-1, -2, -3, -8, -32, -64, -255, -256, -65536, 1 << 31 | 1, Integer.MIN_VALUE};
    }

    static int[] tooLarge(int greatest) {
        int[] numbers = {greatest + 1, greatest + 2, greatest + 3, 8, 16, 32, 33, 64, 255, 256, 257, 65536, 65537,
            1 << 24, 1 << 30, Integer.MAX_VALUE - 1, Integer.MAX_VALUE};
        return IntStream.of(numbers).filter(n -> n > greatest).toArray();
    }

    static int[] outside(int greatest) {
        return IntStream.concat(IntStream.of(tooSmall()), IntStream.of(tooLarge(greatest))).toArray();
    }

    /** Eight rules and five words; each rule and each word shows in some answer. */
    static ParseRanker full() {
        ParseRanker x = new ParseRanker();
        x.pair(Check.abc(0, 1, 2), 1);
        x.pair(Check.abc(1, 1, 1), 2);
        x.pair(Check.abc(2, 2, 0), 4);
        x.pair(Check.abc(0, 0, 0), 8);
        x.word(0, 0, 16);
        x.word(1, 1, 32);
        x.word(2, 2, 50);
        x.word(1, 0, 21);
        Check.say(x, 1, 0, 2, 0, 0);
        return x;
    }

    /** The same without rule 3 and without the last word, so that there is room for one more of each. */
    static ParseRanker roomy() {
        ParseRanker x = full();
        x.drop(3);
        x.unsay();
        return x;
    }

    /** Rules, but an empty row that was not always empty. */
    static ParseRanker silent() {
        ParseRanker x = full();
        for (int n = 0; n < 5; n++) {
            x.unsay();
        }
        return x;
    }

    /** Words, but no rules, though there were some. */
    static ParseRanker lawless() {
        ParseRanker x = full();
        for (int k = 0; k < 8; k++) {
            x.drop(k);
        }
        return x;
    }

    /** As many like WORD rules for symbol 0 and word 0 as are asked for, with costs from 0 up, and the row 0. */
    static ParseRanker alike(int number) {
        ParseRanker x = new ParseRanker();
        for (int k = 0; k < number; k++) {
            x.word(0, 0, k);
        }
        Check.say(x, 0);
        return x;
    }

    /** PAIR 0 0 0 and WORD 0 0, and as many words 0 as are asked for. */
    static ParseRanker chain(int words) {
        ParseRanker x = new ParseRanker();
        x.pair(0, 2);
        x.word(0, 0, 3);
        for (int n = 0; n < words; n++) {
            x.say(0);
        }
        return x;
    }

    /** Each symbol becomes word 0 or the pair 0 0, so that each span of a row of words 0 has trees for all of them. */
    static ParseRanker everything(int words) {
        ParseRanker x = new ParseRanker();
        x.word(0, 0, 1);
        x.word(1, 0, 2);
        x.word(2, 0, 3);
        x.pair(Check.abc(0, 0, 0), 4);
        x.pair(Check.abc(1, 0, 0), 5);
        x.pair(Check.abc(2, 0, 0), 6);
        for (int n = 0; n < words; n++) {
            x.say(0);
        }
        return x;
    }

    /** Asks all that can be asked (some 160 calls); the row is empty afterwards. */
    static String state(ParseRanker x) {
        StringBuilder all = new StringBuilder("rules " + x.rules() + " length " + x.length());
        for (int a = 0; a < 3; a++) {
            all.append("\nsymbol ").append(a).append(" trees ").append(x.trees(a));
            for (int k = 0; k < 8; k++) {
                all.append(" ").append(x.cost(a, k)).append(" ").append(x.costWith(a, k));
            }
            for (int k = 0; k < 13; k++) {
                all.append(" ").append(x.bestAt(a, k));
            }
        }
        for (int i = 0; i < 5; i++) {
            for (int j = i + 1; j <= 5; j++) {
                all.append("\nspan ").append(i).append(" ").append(j).append(" ").append(x.symbols(i, j));
                for (int a = 0; a < 3; a++) {
                    all.append(" ").append(x.spanCost(i, j, a, 0));
                }
            }
        }
        all.append("\nrow");
        for (int n = 0; n < 6; n++) {
            all.append(" ").append(x.unsay());
        }
        return all.toString();
    }

    /** The call answers as due and leaves the object as one that was never asked. */
    static void changesNothing(Supplier<ParseRanker> make, String call, ToIntFunction<ParseRanker> ask, int want) {
        ParseRanker untouched = make.get();
        ParseRanker asked = make.get();
        Check.due(call, ask.applyAsInt(asked), want);
        Check.due(call + " left all as it was", state(asked).equals(state(untouched)), true);
    }

    static int number(boolean answer) {
        return answer ? 1 : 0;
    }
}

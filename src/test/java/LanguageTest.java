import java.io.IOException;
import java.nio.file.Files;
import java.nio.file.Path;
import java.util.LinkedHashMap;
import java.util.Map;
import java.util.Set;
import java.util.TreeSet;
import java.util.regex.Matcher;
import java.util.regex.Pattern;

/** The rules of LANGUAGE.md that can be read from the text of the class (FaceTest has rule 1). */
public final class LanguageTest {
    private static final Pattern FORBIDDEN = Pattern.compile("\\b(import|package|throw|throws|try|catch|finally"
        + "|synchronized|assert|instanceof|null|float|double|String|Math|Integer|System|Arrays|Object|enum|record"
        + "|interface|protected|var)\\b|->|::|\\[\\s*\\]\\s*\\[");
    private static final Pattern ARRAY = Pattern.compile("    private final int\\[\\] \\w+ = new int\\[[A-Z_]+\\];");
    private static final Pattern FIELD = Pattern.compile("(?m)^    (private|public) (?!static)[^(]*?;$");
    private static final Pattern METHOD = Pattern.compile(
        "(?ms)^    (?:public|private) (?:static )?(?:int|boolean|void) (\\w+)\\(([^)]*)\\) \\{\n(.*?)^    \\}$");
    private static final Pattern CALL = Pattern.compile("(?<!new )\\b(?!(?:if|for|while|switch|return)\\b)(\\w+)\\(");

    private static final int MOST_PARAMETERS = 7;
    private static final int MOST_LINES = 60;
    private static final int DEEPEST = 6;
    private static final int MOST_FIELDS = 40;

    private static String code;
    private static final Map<String, String> BODIES = new LinkedHashMap<>();

    public static void main(String[] args) throws IOException {
        String text = Files.readString(Path.of("src/main/java/ParseRanker.java"));
        code = text.replaceAll("(?s)/\\*.*?\\*/", "").replaceAll("//[^\n]*", "");
        readMethods();
        words();
        arrays();
        libraryCalls();
        depth();
        callsInArguments();
        Check.end();
    }

    private static void readMethods() {
        Matcher method = METHOD.matcher(code);
        while (method.find()) {
            String name = method.group(1);
            Check.due("a second method named " + name + ", unknown to these tests", BODIES.containsKey(name), false);
            BODIES.put(name, method.group(3));
            Check.due("rule 10: parameters of " + name, method.group(2).split(",").length <= MOST_PARAMETERS, true);
            Check.due("rule 10: lines of " + name, method.group(3).lines().count() + 2 <= MOST_LINES, true);
        }
        // A method that the pattern does not know would be looked at by none of these tests.
        Check.due("methods read", BODIES.size(), ParseRanker.class.getDeclaredMethods().length);
        Check.due("rule 10: fields", FIELD.matcher(code).results().count() <= MOST_FIELDS, true);
    }

    private static void words() {
        Matcher found = FORBIDDEN.matcher(code);
        while (found.find()) {
            Check.due("rules 1 to 6: '" + found.group() + "' in the source", true, false);
        }
    }

    private static void arrays() {
        code.lines().filter(line -> line.matches(".*\\bnew\\b.*")).forEach(line ->
            Check.due("rule 4: made in a field's initialiser: " + line, ARRAY.matcher(line).matches(), true));
    }

    // Whatever belongs to a class of the library, or to an object, is reached by a dot.
    private static void libraryCalls() {
        Check.due("rule 3: a dot in the source", code.contains("."), false);
        for (String body : BODIES.values()) {
            for (String called : calledIn(body)) {
                Check.due("rule 3: " + called + " is a method of the class", BODIES.containsKey(called), true);
            }
        }
    }

    private static Set<String> calledIn(String body) {
        Set<String> names = new TreeSet<>();
        Matcher call = CALL.matcher(body);
        while (call.find()) {
            names.add(call.group(1));
        }
        return names;
    }

    private static void depth() {
        for (String name : BODIES.keySet()) {
            int deep = depthOf(name, 1);
            Check.due("rules 8 and 10: " + name + " calls " + deep + " deep", deep <= DEEPEST, true);
        }
    }

    // It stops one below the deepest that may be, so that it ends even where a method calls itself.
    private static int depthOf(String name, int depth) {
        int deepest = depth;
        if (depth <= DEEPEST) {
            for (String called : calledIn(BODIES.getOrDefault(name, ""))) {
                deepest = Math.max(deepest, depthOf(called, depth + 1));
            }
        }
        return deepest;
    }

    private static void callsInArguments() {
        Matcher call = CALL.matcher(code);
        while (call.find()) {
            String arguments = argumentsFrom(call.end());
            boolean inner = CALL.matcher(arguments).find();
            Check.due("rule 10: " + call.group() + arguments + ") has a call in its arguments", inner, false);
        }
    }

    private static String argumentsFrom(int start) {
        int open = 1;
        int end = start;
        for (; open > 0; end++) {
            open += code.charAt(end) == '(' ? 1 : 0;
            open -= code.charAt(end) == ')' ? 1 : 0;
        }
        return code.substring(start, end - 1);
    }
}

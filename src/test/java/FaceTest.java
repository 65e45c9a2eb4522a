import java.io.IOException;
import java.lang.reflect.Constructor;
import java.lang.reflect.Field;
import java.lang.reflect.Method;
import java.lang.reflect.Modifier;
import java.nio.file.Files;
import java.nio.file.Path;
import java.util.Set;
import java.util.TreeSet;
import java.util.regex.Matcher;
import java.util.regex.Pattern;

/** The public face of the document, and the rules of LANGUAGE.md that can be seen from outside or from single words. */
public final class FaceTest {
    private static final Set<String> METHODS = Set.of(
        "int pair(int, int)", "int word(int, int, int)", "boolean drop(int)", "boolean price(int, int)", "int rules()",
        "boolean say(int)", "int unsay()", "int length()", "int cost(int, int)", "int spanCost(int, int, int, int)",
        "int trees(int)", "int bestAt(int, int)", "int symbols(int, int)", "int costWith(int, int)");

    private static final Pattern FORBIDDEN = Pattern.compile("\\b(import|package|throw|throws|try|catch|finally"
        + "|synchronized|assert|instanceof|null|float|double|String|Math|Integer|System|Arrays|Object|enum|record"
        + "|interface|protected|var)\\b|->|::|\\[\\s*\\]\\s*\\[");

    public static void main(String[] args) throws IOException {
        Check.due("NONE", ParseRanker.NONE, -1);
        Check.due("FULL", ParseRanker.FULL, -2);
        methods();
        fields();
        shape();
        source();
        Check.end();
    }

    private static void methods() {
        Set<String> found = new TreeSet<>();
        Set<String> names = new TreeSet<>();
        for (Method method : ParseRanker.class.getDeclaredMethods()) {
            if (Modifier.isPublic(method.getModifiers())) {
                found.add(signature(method));
                names.add(method.getName());
            }
            Check.due(method + " has at most 7 parameters", method.getParameterCount() <= 7, true);
        }
        Check.due("public methods " + found, found.equals(METHODS), true);
        for (Method method : ParseRanker.class.getDeclaredMethods()) {
            if (!Modifier.isPublic(method.getModifiers())) {
                Check.due(method + " is private", Modifier.isPrivate(method.getModifiers()), true);
                Check.due(method + " has a public one's name", names.contains(method.getName()), false);
            }
        }
    }

    private static String signature(Method method) {
        StringBuilder parameters = new StringBuilder();
        for (Class<?> type : method.getParameterTypes()) {
            parameters.append(parameters.length() == 0 ? "" : ", ").append(type.getName());
        }
        return method.getReturnType().getName() + " " + method.getName() + "(" + parameters + ")";
    }

    private static void fields() {
        Set<String> open = new TreeSet<>();
        for (Field field : ParseRanker.class.getDeclaredFields()) {
            int modifiers = field.getModifiers();
            if (!Modifier.isPrivate(modifiers)) {
                open.add(Modifier.toString(modifiers) + " " + field.getType() + " " + field.getName());
            }
            if (Modifier.isStatic(modifiers)) {
                Check.due(field + " is a constant", Modifier.isFinal(modifiers), true);
                Check.due(field + " is a number", field.getType() == int.class || field.getType() == long.class, true);
            }
        }
        Set<String> want = Set.of("public static final int NONE", "public static final int FULL");
        Check.due("open fields " + open, open.equals(want), true);
    }

    private static void shape() {
        int modifiers = ParseRanker.class.getModifiers();
        Check.due("public final", Modifier.isPublic(modifiers) && Modifier.isFinal(modifiers), true);
        Check.due("nested classes", ParseRanker.class.getDeclaredClasses().length, 0);
        Constructor<?>[] constructors = ParseRanker.class.getDeclaredConstructors();
        Check.due("constructors", constructors.length, 1);
        Check.due("public constructor", Modifier.isPublic(constructors[0].getModifiers()), true);
        Check.due("its parameters", constructors[0].getParameterCount(), 0);
    }

    private static void source() throws IOException {
        String text = Files.readString(Path.of("src/main/java/ParseRanker.java"));
        String code = text.replaceAll("(?s)/\\*.*?\\*/", "").replaceAll("//[^\n]*", "");
        Matcher matcher = FORBIDDEN.matcher(code);
        while (matcher.find()) {
            Check.due("'" + matcher.group() + "' in the source", true, false);
        }
        for (String line : code.split("\n")) {
            if (line.matches(".*\\bnew\\b.*")) {
                boolean field = line.matches("    private final int\\[\\] \\w+ = new int\\[[A-Z_]+\\];");
                Check.due("an array is made in a field's initialiser: " + line, field, true);
            }
        }
    }
}

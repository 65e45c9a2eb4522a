import java.lang.reflect.Constructor;
import java.lang.reflect.Field;
import java.lang.reflect.Method;
import java.lang.reflect.Modifier;
import java.util.Set;
import java.util.TreeSet;

/** The public face of the document: each member that it names, and no other (LanguageTest looks at the source). */
public final class FaceTest {
    private static final Set<String> METHODS = Set.of(
        "int pair(int, int)", "int word(int, int, int)", "boolean drop(int)", "boolean price(int, int)", "int rules()",
        "boolean say(int)", "int unsay()", "int length()", "int cost(int, int)", "int spanCost(int, int, int, int)",
        "int trees(int)", "int bestAt(int, int)", "int symbols(int, int)", "int costWith(int, int)");

    public static void main(String[] args) {
        Check.due("NONE", ParseRanker.NONE, -1);
        Check.due("FULL", ParseRanker.FULL, -2);
        methods();
        fields();
        shape();
        Check.end();
    }

    private static void methods() {
        Set<String> found = new TreeSet<>();
        Set<String> names = new TreeSet<>();
        for (Method method : ParseRanker.class.getDeclaredMethods()) {
            if (Modifier.isPublic(method.getModifiers())) {
                found.add(signature(method));
                names.add(method.getName());
            }
        }
        Check.due("public methods " + found, found.equals(METHODS), true);
        for (Method method : ParseRanker.class.getDeclaredMethods()) {
            if (!Modifier.isPublic(method.getModifiers())) {
                Check.due(method + " is private", Modifier.isPrivate(method.getModifiers()), true);
                Check.due(method + " has a public one's name", names.contains(method.getName()), false);
            }
        }
    }

    private static String signature(Method method) {
        StringBuilder parameters = new StringBuilder();
        for (Class<?> type : method.getParameterTypes()) {
            parameters.append(parameters.length() == 0 ? "" : ", ").append(type.getName());
        }
        return method.getReturnType().getName() + " " + method.getName() + "(" + parameters + ")";
    }

    private static void fields() {
        Set<String> open = new TreeSet<>();
        for (Field field : ParseRanker.class.getDeclaredFields()) {
            int modifiers = field.getModifiers();
            if (!Modifier.isPrivate(modifiers)) {
                open.add(Modifier.toString(modifiers) + " " + field.getType() + " " + field.getName());
            }
            if (Modifier.isStatic(modifiers)) {
                Check.due(field + " is a constant", Modifier.isFinal(modifiers), true);
                Check.due(field + " is a number", field.getType() == int.class || field.getType() == long.class, true);
            }
        }
        Set<String> want = Set.of("public static final int NONE", "public static final int FULL");
        Check.due("open fields " + open, open.equals(want), true);
    }

    private static void shape() {
        int modifiers = ParseRanker.class.getModifiers();
        Check.due("public final", Modifier.isPublic(modifiers) && Modifier.isFinal(modifiers), true);
        Check.due("no class above it", ParseRanker.class.getSuperclass() == Object.class, true);
        Check.due("interfaces", ParseRanker.class.getInterfaces().length, 0);
        Check.due("without a package", ParseRanker.class.getPackageName().isEmpty(), true);
        Check.due("nested classes", ParseRanker.class.getDeclaredClasses().length, 0);
        Constructor<?>[] constructors = ParseRanker.class.getDeclaredConstructors();
        Check.due("constructors", constructors.length, 1);
        Check.due("public constructor", Modifier.isPublic(constructors[0].getModifiers()), true);
        Check.due("its parameters", constructors[0].getParameterCount(), 0);
    }
}

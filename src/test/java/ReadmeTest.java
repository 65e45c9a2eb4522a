import java.io.IOException;
import java.lang.reflect.Method;
import java.nio.file.Files;
import java.nio.file.Path;
import java.util.Arrays;
import java.util.Set;
import java.util.TreeSet;
import java.util.regex.Matcher;
import java.util.regex.Pattern;

/** The example in README.md: each of its calls is made, and answers what the comment behind it says. */
public final class ReadmeTest {
    private static final Pattern EXAMPLE = Pattern.compile("(?s)```java\n(.*?)```");
    private static final Pattern CALL = Pattern.compile("x\\.(\\w+)\\(([\\d, ]*)\\); +// (-?\\w+)(:.*)?");
    private static final Pattern NUMBER = Pattern.compile("\\d+");

    public static void main(String[] args) throws IOException, ReflectiveOperationException {
        Matcher example = EXAMPLE.matcher(Files.readString(Path.of("README.md")));
        Check.due("README.md has an example", example.find(), true);
        ParseRanker x = new ParseRanker();
        Set<String> called = new TreeSet<>();
        for (String line : example.group(1).split("\n")) {
            Matcher call = CALL.matcher(line);
            if (call.matches()) {
                called.add(call.group(1));
                Check.due(line, answer(x, call.group(1), call.group(2)), meant(call.group(3)));
            } else {
                boolean known = line.isEmpty() || line.startsWith("// ") || line.startsWith("ParseRanker x = new ");
                Check.due("a line that is no call: " + line, known, true);
            }
        }
        long methods = Arrays.stream(ParseRanker.class.getMethods())
            .filter(method -> method.getDeclaringClass() == ParseRanker.class).count();
        Check.due("methods in the example " + called, called.size(), methods);
        Check.end();
    }

    private static long answer(ParseRanker x, String name, String numbers) throws ReflectiveOperationException {
        Object[] values = NUMBER.matcher(numbers).results().map(n -> Integer.valueOf(n.group())).toArray();
        Class<?>[] types = new Class<?>[values.length];
        Arrays.fill(types, int.class);
        Method method = ParseRanker.class.getMethod(name, types);
        return meant(String.valueOf(method.invoke(x, values)));
    }

    private static long meant(String answer) {
        return switch (answer) {
            case "true" -> 1;
            case "false" -> 0;
            case "NONE" -> ParseRanker.NONE;
            case "FULL" -> ParseRanker.FULL;
            default -> Long.parseLong(answer);
        };
    }
}

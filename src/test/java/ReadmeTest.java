import java.io.IOException;
import java.lang.reflect.Method;
import java.lang.reflect.Modifier;
import java.nio.file.Files;
import java.nio.file.Path;
import java.util.ArrayList;
import java.util.HashMap;
import java.util.List;
import java.util.Map;
import java.util.regex.Matcher;
import java.util.regex.Pattern;

/** README.md: its example answers as it says there, and it tells each call, and no other, with its parameters. */
public final class ReadmeTest {
    private static final Path README = Path.of("README.md");
    /** int name = prices.call(arguments);   // answer */
    private static final Pattern CALL =
            Pattern.compile("(?:int (\\w+) = )?prices\\.(\\w+)\\(([^)]*)\\); *// (-?\\d+)\\b.*");
    private static final Check CHECK = new Check();

    public static void main(String[] args) throws IOException, ReflectiveOperationException {
        String text = Files.readString(README);
        exampleAnswersAsTold(text);
        eachCallIsTold(text);
        CHECK.end();
    }

    private static void exampleAnswersAsTold(String text) throws ReflectiveOperationException {
        Matcher block = Pattern.compile("(?s)```java\n(.*?)```").matcher(text);
        CHECK.due("an example", block.find() ? 1 : 0, 1);
        String[] lines = block.group(1).split("\n");
        CHECK.due("the example's first line", lines[0], "RulePrices prices = new RulePrices();");
        RulePrices prices = new RulePrices();
        Map<String, Integer> names = new HashMap<>();
        for (int i = 1; i < lines.length; i++) {
            Matcher call = CALL.matcher(lines[i]);
            CHECK.due("a call with its answer: " + lines[i], call.matches() ? 1 : 0, 1);
            long answer = ask(prices, call.group(2), call.group(3), names);
            CHECK.due(lines[i], answer, Long.parseLong(call.group(4)));
            if (call.group(1) != null) {
                names.put(call.group(1), (int) answer);
            }
        }
    }

    private static long ask(RulePrices prices, String name, String arguments, Map<String, Integer> names)
            throws ReflectiveOperationException {
        List<Object> given = new ArrayList<>();
        for (String one : arguments.isEmpty() ? new String[0] : arguments.split(", ")) {
            if (names.containsKey(one)) {
                given.add(names.get(one));
            } else if (one.equals("true") || one.equals("false")) {
                given.add(one.equals("true"));
            } else {
                given.add(Integer.parseInt(one));
            }
        }
        return ((Number) callNamed(name).invoke(prices, given.toArray())).longValue();
    }

    private static Method callNamed(String name) throws NoSuchMethodException {
        for (Method method : RulePrices.class.getDeclaredMethods()) {
            if (Modifier.isPublic(method.getModifiers()) && method.getName().equals(name)) {
                return method;
            }
        }
        throw new NoSuchMethodException(name);
    }

    /** Each call has a row of a table of its own. */
    private static void eachCallIsTold(String text) throws NoSuchMethodException {
        Matcher row = Pattern.compile("(?m)^\\| `(\\w+)\\(([^)]*)\\)` \\| [^|]+ \\|$").matcher(text);
        List<String> told = new ArrayList<>();
        while (row.find()) {
            String name = row.group(1);
            int parameters = row.group(2).isEmpty() ? 0 : row.group(2).split(", ").length;
            CHECK.due("parameters of " + name, callNamed(name).getParameterCount(), parameters);
            CHECK.due(name + " is told twice", told.contains(name) ? 1 : 0, 0);
            told.add(name);
        }
        for (Method method : RulePrices.class.getDeclaredMethods()) {
            if (Modifier.isPublic(method.getModifiers())) {
                CHECK.due(method.getName() + " is told", told.contains(method.getName()) ? 1 : 0, 1);
            }
        }
    }
}

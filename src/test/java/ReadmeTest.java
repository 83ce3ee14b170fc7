import java.lang.reflect.Method;
import java.nio.file.Files;
import java.nio.file.Path;
import java.util.Map;
import java.util.TreeMap;
import java.util.TreeSet;
import java.util.regex.Matcher;
import java.util.regex.Pattern;

/** The calls that README.md shows answer what it says, and it shows every one of the class. */
final class ReadmeTest {
    private static final Pattern CALL = Pattern.compile(
        "store\\.(\\w+)\\(([^)]*)\\);(?:\\s*// (-?\\d+|BAD|FULL|NONE)\\b.*)?");
    private static final Pattern NUMBER = Pattern.compile("int (\\w+) = ([\\d +*]+);");

    private static final Map<String, Integer> NUMBERS = new TreeMap<>(Map.of(
        "BAD", RollupStore.BAD, "FULL", RollupStore.FULL, "NONE", RollupStore.NONE));

    public static void main(String[] args) throws Exception {
        String text = Files.readString(Path.of("README.md"));
        String example = text.split("```java\n")[1].split("```")[0];
        RollupStore store = new RollupStore();
        TreeSet<String> shown = new TreeSet<>();
        for (String line : example.split("\n")) {
            Matcher number = NUMBER.matcher(line);
            Matcher call = CALL.matcher(line);
            if (number.matches()) {
                NUMBERS.put(number.group(1), valueOf(number.group(2)));
            } else if (call.matches()) {
                shown.add(call.group(1));
                answer(line, store, call);
            } else {
                Checks.holds("a line that is read: " + line,
                    line.isEmpty() || line.equals("RollupStore store = new RollupStore();"));
            }
        }
        for (Method method : RollupStore.class.getMethods()) {
            if (method.getDeclaringClass() == RollupStore.class) {
                Checks.holds("README.md shows " + method, shown.contains(method.getName()));
            }
        }
        Checks.end();
    }

    /** A number, a name, or a sum of products of them. */
    private static int valueOf(String words) {
        int sum = 0;
        for (String part : words.split("\\+")) {
            int product = 1;
            for (String factor : part.split("\\*")) {
                String word = factor.trim();
                product *= NUMBERS.containsKey(word) ? NUMBERS.get(word) : Integer.parseInt(word);
            }
            sum += product;
        }
        return sum;
    }

    private static void answer(String line, RollupStore store, Matcher call) throws Exception {
        String[] words = call.group(2).isEmpty() ? new String[0] : call.group(2).split(",");
        Object[] values = new Object[words.length];
        Class<?>[] types = new Class<?>[words.length];
        for (int i = 0; i < words.length; i++) {
            values[i] = valueOf(words[i]);
            types[i] = int.class;
        }
        Object got = RollupStore.class.getMethod(call.group(1), types).invoke(store, values);
        if (call.group(3) == null) {
            Checks.holds("a call without an answer: " + line, got == null);
        } else {
            Checks.due(line, (Integer) got, valueOf(call.group(3)));
        }
    }
}

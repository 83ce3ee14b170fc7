import java.nio.file.Files;
import java.nio.file.Path;
import java.util.ArrayList;
import java.util.List;
import java.util.Map;
import java.util.Random;
import java.util.Set;
import java.util.TreeMap;
import java.util.TreeSet;
import java.util.regex.Matcher;
import java.util.regex.Pattern;

/**
 * The rules of LANGUAGE.md that can be seen in the words of the source (FaceTest has those that
 * reflection sees), and rule 7 by odd calls without end. It reads the source from the project's
 * directory, where .ci/run starts it.
 */
final class LanguageTest {
    private static final Path SOURCE = Path.of("src/main/java/RollupStore.java");
    private static final Pattern TOKEN =
        Pattern.compile("[A-Za-z_$][\\w$]*|\\d\\w*(?:\\.\\w+)?|->|::|\\S");
    private static final Set<String> BANNED = Set.of("package", "import", "interface", "enum",
        "record", "float", "double", "null", "throw", "throws", "try", "catch", "finally",
        "synchronized", "assert", "instanceof", "->", "::", "\"", "var", "equals", "hashCode",
        "toString", "getClass", "notify", "notifyAll", "wait", "clone", "finalize", "protected");
    private static final Set<String> BEFORE_BRACKET = Set.of("if", "for", "while", "switch",
        "return");

    /** The tokens of each method's body, by the method's name. */
    private static final Map<String, List<String>> BODIES = new TreeMap<>();
    private static List<String> tokens;

    public static void main(String[] args) throws Exception {
        String code = withoutComments(Files.readString(SOURCE));
        tokens = tokensOf(code);
        words();
        arrays();
        methodsOf(code);
        callsInCalls();
        for (String method : BODIES.keySet()) {
            Checks.holds("rule 10: calls from " + method + " go at most six deep",
                depth(method, new TreeSet<>()) <= 6);
        }
        oddCalls();
        Checks.end();
    }

    /** Comments become as many line ends as they had, so that lines keep their places. */
    private static String withoutComments(String text) {
        Matcher comment = Pattern.compile("(?s)/\\*.*?\\*/|//[^\\n]*").matcher(text);
        return comment.replaceAll(found -> found.group().replaceAll("[^\\n]", ""));
    }

    private static List<String> tokensOf(String code) {
        List<String> found = new ArrayList<>();
        Matcher token = TOKEN.matcher(code);
        while (token.find()) {
            found.add(token.group());
        }
        return found;
    }

    private static void words() {
        int classes = 0;
        for (String token : tokens) {
            classes += token.equals("class") ? 1 : 0;
            Checks.holds("rules 1 to 6: no " + token, !BANNED.contains(token));
            boolean typeName = token.matches("[A-Z]\\w*[a-z]\\w*");
            Checks.holds("rules 2 and 3: no class " + token,
                !typeName || token.equals("RollupStore"));
            Checks.holds("rule 2: a whole number " + token, !token.matches("\\d.*[.fFdD].*")
                || token.startsWith("0x"));
        }
        Checks.due("rule 1: classes", classes, 1);
        Checks.holds("rule 5: no static initialiser",
            !String.join(" ", tokens).contains("static {"));
    }

    /** Rule 4, in its easiest form: every array is made in a field's initialiser. */
    private static void arrays() {
        int deep = 0;
        for (int i = 0; i < tokens.size(); i++) {
            deep += tokens.get(i).equals("{") ? 1 : 0;
            deep -= tokens.get(i).equals("}") ? 1 : 0;
            if (tokens.get(i).equals("new")) {
                Checks.due("rule 4: braces round an array's making", deep, 1);
                String made = String.join(" ", tokens.subList(i, i + 5));
                Checks.holds("rule 4: a constant length: " + made, made.matches(
                    "new (int|long|short|byte|char|boolean) \\[ ([A-Z_]+|[1-9]\\d*) \\]"));
                Checks.holds("rule 2: one-dimensional", !tokens.get(i + 5).equals("["));
            }
        }
    }

    private static void methodsOf(String code) {
        Matcher head = Pattern.compile("(?m)^    (?:public|private)[^;=]*?(\\w+)\\(([^)]*)\\) \\{")
            .matcher(code);
        while (head.find()) {
            int end = code.indexOf("\n    }", head.end());
            String body = code.substring(head.end(), end);
            String name = head.group(1);
            Checks.holds("rule 10: " + name + " has some sixty lines",
                body.lines().count() <= 60);
            Checks.holds("rule 10: " + name + " has at most seven parameters",
                head.group(2).split(",").length <= 7);
            Checks.holds("one method is named " + name, !BODIES.containsKey(name));
            BODIES.put(name, tokensOf(body));
        }
        int declared = RollupStore.class.getDeclaredMethods().length
            + RollupStore.class.getDeclaredConstructors().length;
        Checks.due("methods seen in the source", BODIES.size(), declared);
    }

    private static boolean isCall(List<String> body, int i) {
        return i + 1 < body.size() && body.get(i + 1).equals("(")
            && body.get(i).matches("[A-Za-z_]\\w*") && !BEFORE_BRACKET.contains(body.get(i));
    }

    private static void callsInCalls() {
        for (Map.Entry<String, List<String>> method : BODIES.entrySet()) {
            List<String> body = method.getValue();
            // For each bracket that is open, whether it holds a call's arguments.
            List<Boolean> open = new ArrayList<>();
            for (int i = 0; i < body.size(); i++) {
                if (isCall(body, i)) {
                    Checks.holds("rule 10: " + body.get(i) + " in " + method.getKey()
                        + " stands in no call's arguments", !open.contains(true));
                    Checks.holds("rule 3: " + body.get(i) + " is the class's own",
                        BODIES.containsKey(body.get(i)));
                }
                if (body.get(i).equals("(")) {
                    open.add(i > 0 && isCall(body, i - 1));
                } else if (body.get(i).equals(")")) {
                    open.remove(open.size() - 1);
                }
            }
        }
    }

    private static int depth(String method, Set<String> above) {
        if (!above.add(method)) {
            Checks.holds("rule 8: no recursion through " + method, false);
            return 1;
        }
        int deepest = 0;
        List<String> body = BODIES.get(method);
        for (int i = 0; i < body.size(); i++) {
            if (isCall(body, i) && BODIES.containsKey(body.get(i))) {
                deepest = Math.max(deepest, depth(body.get(i), above));
            }
        }
        above.remove(method);
        return deepest + 1;
    }

    /** Rule 7: no call throws, far behind the 512th too, where the answers are free. */
    private static void oddCalls() {
        Random random = new Random(7);
        RollupStore x = new RollupStore();
        int calls = 0;
        for (int i = 0; i < 20000; i++) {
            int a = odd(random);
            int b = odd(random);
            int c = odd(random);
            x.take(a, b, c, odd(random));
            x.seal();
            if (random.nextInt(500) == 0) {
                x.forget(a);
            }
            x.events();
            x.sorts();
            x.count(a);
            x.sum(a);
            x.least(a);
            x.greatest(a);
            x.sortsPassing(a);
            x.sumFor(a, b, c);
            x.top(a, b, c);
            x.gaps(a);
            calls++;
        }
        Checks.due("rule 7: rounds of odd calls that came to their end", calls, 20000);
    }

    private static int odd(Random random) {
        return switch (random.nextInt(8)) {
            case 0 -> random.nextInt();
            case 1 -> random.nextBoolean() ? Integer.MIN_VALUE : Integer.MAX_VALUE;
            case 2 -> random.nextInt(262144);
            case 3 -> random.nextInt(80) - 8;
            default -> random.nextInt(4);
        };
    }
}

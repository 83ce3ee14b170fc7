import java.io.File;
import java.lang.reflect.Constructor;
import java.lang.reflect.Field;
import java.lang.reflect.Method;
import java.lang.reflect.Modifier;
import java.util.Arrays;
import java.util.Set;
import java.util.TreeSet;

/** The public face of the document, and the rules of LANGUAGE.md that can be seen from outside. */
final class FaceTest {
    private static final String[] METHODS = {
        "int take(int, int, int, int)", "void seal()", "int forget(int)", "int events()",
        "int sorts()", "int count(int)", "int sum(int)", "int least(int)", "int greatest(int)",
        "int sortsPassing(int)", "int sumFor(int, int, int)", "int top(int, int, int)",
        "int gaps(int)"};

    private static final Set<String> TYPES = Set.of("int", "long", "short", "byte", "char",
        "boolean", "int[]", "long[]", "short[]", "byte[]", "char[]", "boolean[]");

    public static void main(String[] args) throws Exception {
        constants();
        classAndConstructor();
        methods();
        fields();
        Checks.end();
    }

    private static void constants() {
        Checks.due("NONE", RollupStore.NONE, -1000000);
        Checks.due("BAD", RollupStore.BAD, -1);
        Checks.due("FULL", RollupStore.FULL, -2);
    }

    private static void classAndConstructor() throws Exception {
        int modifiers = RollupStore.class.getModifiers();
        Checks.holds("public final", Modifier.isPublic(modifiers) && Modifier.isFinal(modifiers));
        Checks.holds("in no package", RollupStore.class.getPackageName().isEmpty());
        Checks.holds("of Object alone", RollupStore.class.getSuperclass() == Object.class
            && RollupStore.class.getInterfaces().length == 0);
        Constructor<?>[] made = RollupStore.class.getDeclaredConstructors();
        Checks.due("number of constructors", made.length, 1);
        Checks.holds("the constructor is public and takes nothing",
            Modifier.isPublic(made[0].getModifiers()) && made[0].getParameterCount() == 0);
        File place = new File(RollupStore.class.getProtectionDomain().getCodeSource()
            .getLocation().toURI());
        String[] nested = place.list((where, name) -> name.startsWith("RollupStore$"));
        Checks.due("number of nested classes", nested.length, 0);
    }

    private static void methods() {
        Set<String> face = new TreeSet<>();
        Set<String> publicNames = new TreeSet<>();
        for (Method method : RollupStore.class.getDeclaredMethods()) {
            if (!Modifier.isPrivate(method.getModifiers())) {
                Checks.holds(method + " is public and not static",
                    method.getModifiers() == Modifier.PUBLIC);
                face.add(written(method));
                publicNames.add(method.getName());
            }
        }
        Checks.holds("the methods are those of the document: " + face,
            face.equals(new TreeSet<>(Arrays.asList(METHODS))));
        for (Method method : RollupStore.class.getDeclaredMethods()) {
            if (Modifier.isPrivate(method.getModifiers())) {
                Checks.holds(method + " bears no public name",
                    !publicNames.contains(method.getName()));
                Checks.holds(method + " has at most seven parameters",
                    method.getParameterCount() <= 7);
            }
        }
    }

    private static String written(Method method) {
        StringBuilder text = new StringBuilder();
        for (Class<?> type : method.getParameterTypes()) {
            text.append(text.length() == 0 ? "" : ", ").append(type.getSimpleName());
        }
        return method.getReturnType().getSimpleName() + " " + method.getName() + "(" + text + ")";
    }

    private static void fields() {
        Set<String> face = new TreeSet<>();
        for (Field field : RollupStore.class.getDeclaredFields()) {
            int modifiers = field.getModifiers();
            String type = field.getType().getSimpleName();
            Checks.holds(field + " has a type of the rules", TYPES.contains(type));
            if (Modifier.isStatic(modifiers)) {
                Checks.holds(field + " is a constant of int or long",
                    Modifier.isFinal(modifiers) && (type.equals("int") || type.equals("long")));
            }
            if (!Modifier.isPrivate(modifiers)) {
                Checks.holds(field + " is a public constant", modifiers
                    == (Modifier.PUBLIC | Modifier.STATIC | Modifier.FINAL) && type.equals("int"));
                face.add(field.getName());
            }
        }
        Checks.holds("the constants are those of the document: " + face,
            face.equals(Set.of("NONE", "BAD", "FULL")));
    }
}

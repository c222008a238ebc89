import java.io.IOException;
import java.lang.reflect.Field;
import java.lang.reflect.Method;
import java.lang.reflect.Modifier;
import java.nio.file.Files;
import java.nio.file.Path;
import java.util.HashSet;
import java.util.LinkedHashMap;
import java.util.Map;
import java.util.Set;
import java.util.regex.Matcher;
import java.util.regex.Pattern;

/**
 * The rules of LANGUAGE.md that can be seen in the words of the source or in
 * the members of the class. It is run from the project's own directory.
 */
public final class LanguageTest {
    private static final Path SOURCE = Path.of("src/main/java/SymbolMender.java");
    private static final Map<Integer, Set<String>> BARRED = Map.of(
            1, Set.of("package", "enum", "record", "interface"),
            2, Set.of("float", "double"),
            3, Set.of("import"),
            4, Set.of("null"),
            6, Set.of("throw", "throws", "try", "catch", "finally", "synchronized", "assert", "instanceof"));
    private static final Pattern WORD = Pattern.compile("[A-Za-z_][A-Za-z_0-9]*");
    private static final Pattern CONSTANT = Pattern.compile("[A-Z][A-Z_0-9]*");
    private static final Pattern ARRAY_FIELD =
            Pattern.compile("    private final (\\w+)\\[\\] \\w+ = new \\1\\[[A-Z1-9]\\w*\\];");
    private static final Pattern METHOD =
            Pattern.compile("(?ms)^    (?:public|private)[\\w ]* (\\w+)\\([^)]*\\) \\{\n(.*?)^    \\}$");
    private static final Pattern CALL = Pattern.compile("(\\w+)\\(");
    // Methods are called without a space before the bracket, unlike if, for, while and switch.
    private static final Pattern CALL_IN_ARGUMENTS = Pattern.compile("\\w\\((?:[^()]|\\([^()]*\\))*\\w\\(");
    private static final Pattern LOOP_WORD = Pattern.compile("\\b(?:for|while|do)\\b");
    private static final Pattern COUNTED_LOOP = Pattern.compile(
            "for \\(int (\\w+) = [\\w -]+; (?:\\1 < [A-Z_]+; \\1\\+\\+|\\1 >= 0; \\1--)\\) \\{");

    private static int failures = 0;

    public static void main(String[] args) throws IOException {
        String source = Files.readString(SOURCE).replaceAll("(?s)/\\*.*?\\*/", "").replaceAll("//.*", "");
        words(source);
        arrays(source);
        Map<String, String> bodies = methodBodies(source);
        calls(bodies);
        bodies.forEach(LanguageTest::callsInArguments);
        bodies.forEach(LanguageTest::loops);
        fields();
        methods();
        System.out.println(failures == 0 ? "the rules are kept" : failures + " rules are broken");
        if (failures != 0) {
            System.exit(1);
        }
    }

    private static void rule(int number, boolean kept, String what) {
        if (!kept) {
            failures++;
            System.out.println("rule " + number + ": " + what);
        }
    }

    private static void words(String source) {
        Matcher words = WORD.matcher(source);
        while (words.find()) {
            String word = words.group();
            BARRED.forEach((number, barred) -> rule(number, !barred.contains(word), word));
            boolean capital = Character.isUpperCase(word.charAt(0));
            rule(3, !capital || word.equals("SymbolMender") || CONSTANT.matcher(word).matches(), word);
        }
        rule(1, source.split("\\bclass\\b", -1).length == 2, "more than one class");
        rule(2, !source.contains("\""), "a String");
        rule(6, !source.contains("->") && !source.contains("::"), "a lambda or method reference");
        rule(7, !source.contains("/") && !source.contains("%"), "a divisor that this test does not look at");
        rule(5, !Pattern.compile("static\\s*\\{").matcher(source).find(), "a static initialiser");
    }

    private static void arrays(String source) {
        for (String text : source.split("\n")) {
            boolean makes = text.matches(".*\\bnew\\b.*") || text.contains("= {");
            rule(4, !makes || ARRAY_FIELD.matcher(text).matches(), text.strip());
        }
    }

    private static Map<String, String> methodBodies(String source) {
        Map<String, String> bodies = new LinkedHashMap<>();
        Matcher methods = METHOD.matcher(source);
        while (methods.find()) {
            String body = methods.group(2);
            bodies.put(methods.group(1), body);
            rule(10, body.split("\n").length <= 60, methods.group(1) + " is long");
        }
        for (Method method : SymbolMender.class.getDeclaredMethods()) {
            rule(8, bodies.containsKey(method.getName()), method.getName() + " was not found in the source");
        }
        return bodies;
    }

    private static void calls(Map<String, String> bodies) {
        for (String name : bodies.keySet()) {
            rule(10, depth(name, bodies, new HashSet<>()) <= 6, name + " calls more than six deep");
        }
    }

    private static int depth(String name, Map<String, String> bodies, Set<String> above) {
        rule(8, above.add(name), name + " calls itself");
        int deepest = 0;
        Matcher calls = CALL.matcher(bodies.get(name));
        while (calls.find() && failures == 0) {
            if (bodies.containsKey(calls.group(1))) {
                deepest = Math.max(deepest, depth(calls.group(1), bodies, above));
            }
        }
        above.remove(name);
        return deepest + 1;
    }

    private static void callsInArguments(String name, String body) {
        rule(10, !CALL_IN_ARGUMENTS.matcher(body).find(), name + " has a call in another call's arguments");
    }

    /**
     * Every loop counts up to a constant or down to 0, and its counter is set
     * by its own line alone. The rule allows more; no loop here needs more.
     */
    private static void loops(String name, String body) {
        long words = LOOP_WORD.matcher(body).results().count();
        rule(8, words == COUNTED_LOOP.matcher(body).results().count(), name + " has a loop of another form");
        Matcher loops = COUNTED_LOOP.matcher(body);
        while (loops.find()) {
            String counter = "\\b" + loops.group(1) + "\\b";
            String set = counter + " ?(?:[-+*/%&|^]|<<|>>>?)?=(?!=)|" + counter + "(?:\\+\\+|--)|(?:\\+\\+|--)" + counter;
            long own = COUNTED_LOOP.matcher(body).results().filter(loop -> loop.group(1).equals(loops.group(1))).count();
            rule(8, Pattern.compile(set).matcher(body).results().count() == 2 * own, name + " sets a loop's counter");
        }
    }

    private static void fields() {
        int kept = 0;
        for (Field field : SymbolMender.class.getDeclaredFields()) {
            Class<?> type = field.getType();
            if (Modifier.isStatic(field.getModifiers())) {
                boolean constant = Modifier.isFinal(field.getModifiers()) && (type == int.class || type == long.class);
                rule(5, constant, field.toString());
            } else {
                kept++;
                Class<?> held = type.isArray() ? type.getComponentType() : type;
                rule(2, held.isPrimitive(), field.toString());
            }
        }
        rule(10, kept <= 40, kept + " fields");
    }

    private static void methods() {
        Set<String> names = new HashSet<>();
        for (Method method : SymbolMender.class.getDeclaredMethods()) {
            rule(1, names.add(method.getName()), "two methods are named " + method.getName());
            rule(10, method.getParameterCount() <= 7, method.toString());
            rule(4, !method.getReturnType().isArray(), method.toString());
        }
    }
}

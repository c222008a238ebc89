import java.io.IOException;
import java.lang.reflect.Method;
import java.lang.reflect.Modifier;
import java.nio.file.Files;
import java.nio.file.Path;
import java.util.Map;
import java.util.Set;
import java.util.TreeMap;
import java.util.TreeSet;
import java.util.regex.Matcher;
import java.util.regex.Pattern;
import java.util.stream.Stream;

/**
 * What README.md says of the calls, their answers and the project's files is
 * true. It is run from the project's own directory.
 */
public final class ReadmeTest {
    private static final Path TESTS = Path.of("src/test/java");
    private static final String FIRST_LINE = "SymbolMender x = new SymbolMender();";
    private static final Pattern EXAMPLE = Pattern.compile("(?s)```java\n(.*?)```");
    private static final Pattern CALL = Pattern.compile("x\\.(\\w+)\\(([^)]*)\\); +// (-?\\d+)(?:[:,] .*)?");
    private static final Pattern HOLDS = Pattern.compile("the line holds ([0-7](?: [0-7]){6})\\b");
    private static final Pattern TABLE_ROW = Pattern.compile("(?m)^\\| `(\\w+)\\(([^)]*)\\)` \\|");
    private static final Pattern NAMED_PATH = Pattern.compile("`([\\w.]+(?:/[\\w.]+)*/?)`");

    private static final Map<String, Method> METHODS = publicMethods();

    private static int failures = 0;

    public static void main(String[] args) throws IOException, ReflectiveOperationException {
        String readme = Files.readString(Path.of("README.md"));
        example(readme);
        table(readme);
        files(readme);
        commands(readme);
        System.out.println(failures == 0 ? "README.md is true" : failures + " sayings of README.md are not true");
        if (failures != 0) {
            System.exit(1);
        }
    }

    private static Map<String, Method> publicMethods() {
        Map<String, Method> found = new TreeMap<>();
        for (Method method : SymbolMender.class.getDeclaredMethods()) {
            if (Modifier.isPublic(method.getModifiers())) {
                found.put(method.getName(), method);
            }
        }
        return found;
    }

    private static void holds(boolean isTrue, String what) {
        if (!isTrue) {
            failures++;
            System.out.println(what);
        }
    }

    /** The example's calls on one object; every method must be among them. */
    private static void example(String readme) throws ReflectiveOperationException {
        Matcher block = EXAMPLE.matcher(readme);
        if (!block.find()) {
            holds(false, "there is no example");
            return;
        }
        String[] lines = block.group(1).split("\n");
        SymbolMender x = new SymbolMender();
        holds(lines[0].startsWith(FIRST_LINE), "the example does not begin with " + FIRST_LINE);
        wordOnLine(x, lines[0]);
        Set<String> used = new TreeSet<>();
        for (int row = 1; row < lines.length; row++) {
            Matcher call = CALL.matcher(lines[row]);
            if (call.matches() && METHODS.containsKey(call.group(1))) {
                used.add(call.group(1));
                Object answer = METHODS.get(call.group(1)).invoke(x, arguments(call.group(2)));
                holds(answer.toString().equals(call.group(3)), lines[row] + ": answered " + answer);
                wordOnLine(x, lines[row]);
            } else {
                holds(false, "not a call with its answer: " + lines[row]);
            }
        }
        holds(used.equals(METHODS.keySet()), "the example calls only " + used);
    }

    private static Object[] arguments(String list) {
        return Stream.of(list.split(", "))
                .filter(text -> !text.isEmpty())
                .map(text -> text.matches("true|false") ? (Object) Boolean.valueOf(text) : Integer.valueOf(text))
                .toArray();
    }

    private static void wordOnLine(SymbolMender x, String line) {
        Matcher said = HOLDS.matcher(line);
        if (said.find()) {
            StringBuilder word = new StringBuilder();
            for (int place = 0; place < 7; place++) {
                word.append(place == 0 ? "" : " ").append(x.at(place));
            }
            holds(word.toString().equals(said.group(1)), line + ": the line holds " + word);
        } else {
            holds(!line.contains("holds"), "not a word of seven symbols: " + line);
        }
    }

    private static void table(String readme) {
        Set<String> told = new TreeSet<>();
        Matcher rows = TABLE_ROW.matcher(readme);
        while (rows.find()) {
            String name = rows.group(1);
            int count = rows.group(2).isEmpty() ? 0 : rows.group(2).split(", ").length;
            holds(told.add(name), "the table tells " + name + " twice");
            Method method = METHODS.get(name);
            holds(method != null && method.getParameterCount() == count, "there is no such call: " + rows.group());
        }
        holds(told.equals(METHODS.keySet()), "the table tells only " + told);
    }

    /** Every path that is named is there, and every test of the project is named. */
    private static void files(String readme) throws IOException {
        Matcher paths = NAMED_PATH.matcher(readme);
        while (paths.find()) {
            String path = paths.group(1);
            holds(!path.contains("/") || Files.exists(Path.of(path)), path + " is not there");
        }
        try (Stream<Path> tests = Files.list(TESTS)) {
            tests.forEach(test -> holds(readme.contains("`" + test + "`"), test + " is not named"));
        }
    }

    /** The first word of each command, and each source it compiles, is there. */
    private static void commands(String readme) {
        Set<String> programs = new TreeSet<>();
        readme.lines().filter(line -> line.startsWith("    ")).forEach(line -> {
            String[] words = line.strip().split(" ");
            programs.add(words[0]);
            for (String word : words) {
                holds(!word.endsWith(".java") || Files.exists(Path.of(word)), word + " is not there");
            }
        });
        holds(programs.equals(Set.of(".ci/run", "javac", "java")), "the commands run " + programs);
        holds(Files.isExecutable(Path.of(".ci/run")), ".ci/run can't be run");
    }
}

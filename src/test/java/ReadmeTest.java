import java.io.IOException;
import java.lang.reflect.InvocationTargetException;
import java.lang.reflect.Method;
import java.lang.reflect.Modifier;
import java.nio.file.Files;
import java.nio.file.Path;
import java.util.ArrayList;
import java.util.Arrays;
import java.util.HashMap;
import java.util.List;
import java.util.Map;
import java.util.Set;
import java.util.TreeSet;
import java.util.regex.Matcher;
import java.util.regex.Pattern;
import java.util.stream.Collectors;
import java.util.stream.Stream;

/** README.md says what is so: its examples line by line, the numbers of its constants, and what its tables name. */
public final class ReadmeTest {
    private static final Check CHECK = new Check();
    private static final Path TESTS = Path.of("src/test/java");
    private static final Pattern EXAMPLE = Pattern.compile("```java\n(.*?)```", Pattern.DOTALL);
    private static final String NEW_BENCH = "PairBench bench = new PairBench();";
    /** A call whose answer may get a name, and behind it what it answers. */
    private static final Pattern LINE =
            Pattern.compile("(?:int (\\w+) = )?bench\\.(\\w+)\\(([^()]*)\\); +// (-?\\w+)(?:: \\S.*)?");

    private final Map<String, Object> names = new HashMap<>(Map.of("true", true, "false", false));
    private PairBench bench;

    public static void main(String[] args) throws IOException {
        String readme = Files.readString(Path.of("README.md"));
        Set<String> called = new TreeSet<>();
        Matcher examples = EXAMPLE.matcher(readme);
        while (examples.find()) {
            new ReadmeTest().run(examples.group(1), called);
        }
        Set<String> face = calls().stream().map(Method::getName).collect(Collectors.toCollection(TreeSet::new));
        CHECK.due("the examples have every call", called.toString(), face.toString());
        CHECK.due("the table of calls", inTable(readme, "`(\\w+\\([^)]*\\))`").toString(), forms().toString());
        CHECK.due("the constants", readme.contains("`BAD` is " + PairBench.BAD + ", `FULL` " + PairBench.FULL
                + " and `NO` " + PairBench.NO), true);
        tests(readme);
        quotedNames(readme);
        CHECK.end("ReadmeTest");
    }

    private static List<Method> calls() {
        return Arrays.stream(PairBench.class.getDeclaredMethods())
                .filter(method -> Modifier.isPublic(method.getModifiers()))
                .toList();
    }

    private void run(String example, Set<String> called) {
        for (String line : example.split("\n")) {
            Matcher parts = LINE.matcher(line);
            if (line.equals(NEW_BENCH)) {
                bench = new PairBench();
            } else if (parts.matches()) {
                called.add(parts.group(2));
                Object answer = answer(parts.group(2), parts.group(3));
                CHECK.due(line, String.valueOf(answer), due(parts.group(4)));
                if (parts.group(1) != null) {
                    names.put(parts.group(1), answer);
                }
            } else {
                CHECK.due("an example has only calls with their answers: " + line, false, true);
            }
        }
    }

    private Object answer(String call, String arguments) {
        Object[] values = arguments.isEmpty() ? new Object[0]
                : Arrays.stream(arguments.split(", ")).map(this::value).toArray();
        try {
            for (Method method : calls()) {
                if (method.getName().equals(call) && method.getParameterCount() == values.length) {
                    return method.invoke(bench, values);
                }
            }
        } catch (IllegalAccessException | IllegalArgumentException | InvocationTargetException refused) {
            return refused;
        }
        return "no such call";
    }

    private Object value(String text) {
        return text.matches("-?\\d+") ? Integer.valueOf(text) : names.get(text);
    }

    private static String due(String text) {
        switch (text) {
            case "BAD":
                return String.valueOf(PairBench.BAD);
            case "FULL":
                return String.valueOf(PairBench.FULL);
            case "NO":
                return String.valueOf(PairBench.NO);
            default:
                return text;
        }
    }

    /** What stands in the first column of a table, without what does not look like it. */
    private static Set<String> inTable(String readme, String form) {
        Set<String> found = new TreeSet<>();
        Matcher rows = Pattern.compile("(?m)^\\| " + form + " \\|").matcher(readme);
        while (rows.find()) {
            found.add(rows.group(1));
        }
        return found;
    }

    /** The calls with the names that the document gives their arguments, as javac does not keep them. */
    private static Set<String> forms() {
        return new TreeSet<>(Set.of("node(side)", "edge(left, right, there)", "count(what)", "has(left, right)",
                "partner(side, node)", "edgeIs(left, right)", "nodeIs(side, node)", "cover(which, side, node)",
                "hall(which, left)", "part(side, node)", "block(side, node)", "leads(b, c)", "pairings()", "thing()",
                "tell(a, b)", "below(a, b)", "about(thing, what)", "clearGraph()", "clearThings()"));
    }

    private static List<String> testFiles() throws IOException {
        try (Stream<Path> files = Files.list(TESTS)) {
            return files.map(file -> file.getFileName().toString().replace(".java", "")).sorted().toList();
        }
    }

    /** The tests of promises are named by the first and the last one of them. */
    private static void tests(String readme) throws IOException {
        List<String> promises = new ArrayList<>();
        Set<String> others = new TreeSet<>();
        for (String name : testFiles()) {
            if (name.matches("Promise\\d\\d\\w+Test")) {
                promises.add(name);
            } else if (name.endsWith("Test")) {
                others.add(name);
            }
        }
        CHECK.due("tests of promises", promises.size(), 20);
        for (int i = 0; i < promises.size(); i++) {
            CHECK.due("a test of each promise", promises.get(i).substring(7, 9), String.format("%02d", i + 1));
        }
        String row = "| " + promises.get(0) + " .. " + promises.get(promises.size() - 1) + " |";
        CHECK.due(row, readme.contains(row), true);
        CHECK.due("the table of tests", inTable(readme, "(\\w+Test)").toString(), others.toString());
    }

    /** A class or a test method of which the text speaks is there. */
    private static void quotedNames(String readme) throws IOException {
        Set<String> known = new TreeSet<>(testFiles());
        for (Class<?> inside : PairBench.class.getDeclaredClasses()) {
            known.add(inside.getSimpleName());
        }
        for (Method test : Promise02NodeTest.class.getDeclaredMethods()) {
            known.add(test.getName());
        }
        known.add("Mine");
        Matcher quoted = Pattern.compile("`([A-Z][a-z]\\w*|promise\\w+)`").matcher(readme);
        while (quoted.find()) {
            CHECK.due("`" + quoted.group(1) + "` is there", known.contains(quoted.group(1)), true);
        }
    }
}

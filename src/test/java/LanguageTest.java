import java.io.IOException;
import java.lang.reflect.Executable;
import java.lang.reflect.Field;
import java.lang.reflect.Modifier;
import java.nio.file.Files;
import java.nio.file.Path;
import java.util.ArrayList;
import java.util.Arrays;
import java.util.List;
import java.util.Set;
import java.util.regex.Matcher;
import java.util.regex.Pattern;

/** Those rules of ../shared/LANGUAGE.md that can be seen from the text and the shape of the class. */
public final class LanguageTest {
    private static final Check CHECK = new Check();
    private static final Path SOURCE = Path.of("src/main/java/PairBench.java");
    /** Of the library the class needs only these; LANGUAGE.md has more. */
    private static final Set<String> LIBRARY =
            Set.of("Arrays.fill", "Long.bitCount", "Integer.bitCount", "Math.min");
    private static final Pattern COMMENT = Pattern.compile("/\\*.*?\\*/|//[^\n]*", Pattern.DOTALL);

    public static void main(String[] args) throws IOException {
        String code = COMMENT.matcher(Files.readString(SOURCE)).replaceAll("");
        rule2NoLambda(code);
        rules3And4Library(code);
        rule5StaticFields(code);
        rule6NothingIsThrown(code);
        rule9Loops(code);
        rule10NoTextsAreJoined(code);
        rule11Sizes(code);
        CHECK.end("LanguageTest");
    }

    private static List<Class<?>> classes() {
        List<Class<?>> classes = new ArrayList<>(List.of(PairBench.class));
        classes.addAll(Arrays.asList(PairBench.class.getDeclaredClasses()));
        return classes;
    }

    private static void none(String rule, String code, String pattern) {
        Matcher found = Pattern.compile(pattern).matcher(code);
        CHECK.due(rule + (found.find() ? ": " + found.group() : ""), found.reset().find(), false);
    }

    private static void rule2NoLambda(String code) {
        none("rule 2, no lambda, no method reference", code, "->|::");
        for (Class<?> inside : PairBench.class.getDeclaredClasses()) {
            CHECK.due("rule 2, no class inside " + inside, inside.getDeclaredClasses().length, 0);
        }
    }

    /** Every name with a great letter is the class's own, a constant, or in the library's list. */
    private static void rules3And4Library(String code) {
        none("rule 3, no package line", code, "(?m)^package");
        Matcher imports = Pattern.compile("import ([^;]+);").matcher(code);
        while (imports.find()) {
            CHECK.due("rule 4, import " + imports.group(1), imports.group(1), "java.util.Arrays");
        }
        Set<String> own = Set.of("PairBench", "Graph", "Pairing", "Blocks", "Tally", "Order");
        Matcher names = Pattern.compile("\\b[A-Z]\\w*[a-z]\\w*(\\.\\w+)?").matcher(code.replaceAll("import [^;]+;", ""));
        while (names.find()) {
            boolean listed = own.contains(names.group()) || LIBRARY.contains(names.group());
            CHECK.due("rules 3 and 4, " + names.group(), listed, true);
        }
    }

    private static void rule5StaticFields(String code) {
        none("rule 5, no static initialiser", code, "static\\s*\\{");
        for (Class<?> type : classes()) {
            for (Field field : type.getDeclaredFields()) {
                boolean constant = Modifier.isFinal(field.getModifiers()) && field.getType() == int.class;
                CHECK.due("rule 5, " + field, !Modifier.isStatic(field.getModifiers()) || constant, true);
            }
        }
    }

    /** The document names no exception, so there is none to throw and none to catch. */
    private static void rule6NothingIsThrown(String code) {
        none("rule 6", code, "\\b(try|catch|finally|throws?|synchronized|assert|instanceof|equals|hashCode|toString)\\b");
    }

    private static void rule9Loops(String code) {
        none("rule 9, every loop is counted", code, "\\bwhile\\b|\\bdo\\b|for \\(;|; ?;");
    }

    private static void rule10NoTextsAreJoined(String code) {
        none("rule 10, no texts", code, "\"");
    }

    private static void rule11Sizes(String code) {
        int callables = 0;
        CHECK.due("rule 11, classes", classes().size() <= 12, true);
        for (Class<?> type : classes()) {
            long fields = Arrays.stream(type.getDeclaredFields())
                    .filter(field -> !Modifier.isStatic(field.getModifiers()))
                    .count();
            CHECK.due("rule 11, fields of " + type, fields <= 20, true);
            List<Executable> callable = new ArrayList<>(Arrays.asList(type.getDeclaredMethods()));
            callable.addAll(Arrays.asList(type.getDeclaredConstructors()));
            callables += callable.size();
            for (Executable call : callable) {
                CHECK.due("rule 11, parameters of " + call, call.getParameterCount() <= 7, true);
            }
        }
        CHECK.due("rule 11, all methods and constructors were looked at", shortMethods(code), callables);
    }

    /** How many methods were looked at. */
    private static int shortMethods(String code) {
        // A method begins and ends with lines of the same indent, and no line between has it.
        Matcher methods = Pattern.compile("(?m)^( {4}| {8})(?!private static final class)\\w[^;=\n]*\\) \\{\n"
                + "(?:(?:\\1 [^\n]*)?\n)*?\\1\\}$").matcher(code);
        int seen = 0;
        while (methods.find()) {
            seen++;
            long lines = methods.group().lines().count();
            CHECK.due("rule 11, lines of " + methods.group().lines().findFirst().get(), lines <= 60, true);
        }
        return seen;
    }
}

import java.lang.reflect.Constructor;
import java.lang.reflect.Field;
import java.lang.reflect.Method;
import java.lang.reflect.Modifier;
import java.util.Arrays;
import java.util.Set;
import java.util.TreeSet;
import java.util.stream.Collectors;

/** The class has the face of the document, member by member, and nothing else that can be seen. */
public final class FaceTest {
    private static final Check CHECK = new Check();
    private static final Set<String> FACE = new TreeSet<>(Set.of(
            "public static final int BAD = -1",
            "public static final int FULL = -2",
            "public static final int NO = -3",
            "public PairBench()",
            "public int node(int)",
            "public int edge(int, int, boolean)",
            "public int count(int)",
            "public boolean has(int, int)",
            "public int partner(int, int)",
            "public int edgeIs(int, int)",
            "public int nodeIs(int, int)",
            "public int cover(int, int, int)",
            "public int hall(int, int)",
            "public int part(int, int)",
            "public int block(int, int)",
            "public int leads(int, int)",
            "public long pairings()",
            "public int thing()",
            "public int tell(int, int)",
            "public boolean below(int, int)",
            "public int about(int, int)",
            "public int clearGraph()",
            "public int clearThings()"));

    public static void main(String[] args) throws IllegalAccessException {
        theClass();
        CHECK.due("all that is not private", seen().toString(), FACE.toString());
        noPrivateMethodWithAPublicName();
        classesInside();
        CHECK.end("FaceTest");
    }

    private static void theClass() {
        CHECK.due("the class", PairBench.class.toGenericString(), "public final class PairBench");
        CHECK.due("above it", PairBench.class.getSuperclass().getName(), "java.lang.Object");
        CHECK.due("interfaces", PairBench.class.getInterfaces().length, 0);
        CHECK.due("package", PairBench.class.getPackageName(), "");
    }

    private static Set<String> seen() throws IllegalAccessException {
        Set<String> seen = new TreeSet<>();
        for (Field field : PairBench.class.getDeclaredFields()) {
            if (!Modifier.isPrivate(field.getModifiers())) {
                String value = Modifier.isStatic(field.getModifiers()) ? " = " + field.get(null) : "";
                seen.add(how(field.getModifiers()) + field.getType() + " " + field.getName() + value);
            }
        }
        for (Constructor<?> made : PairBench.class.getDeclaredConstructors()) {
            if (!Modifier.isPrivate(made.getModifiers())) {
                seen.add(how(made.getModifiers()) + made.getName() + ends(made.getParameterTypes())
                        + thrown(made.getExceptionTypes()));
            }
        }
        for (Method method : PairBench.class.getDeclaredMethods()) {
            if (!Modifier.isPrivate(method.getModifiers())) {
                seen.add(how(method.getModifiers()) + method.getReturnType() + " " + method.getName()
                        + ends(method.getParameterTypes()) + thrown(method.getExceptionTypes()));
            }
        }
        return seen;
    }

    private static String how(int modifiers) {
        return modifiers == 0 ? "" : Modifier.toString(modifiers) + " ";
    }

    private static String ends(Class<?>[] types) {
        return Arrays.stream(types).map(Class::toString).collect(Collectors.joining(", ", "(", ")"));
    }

    private static String thrown(Class<?>[] types) {
        return types.length == 0 ? "" : " throws " + Arrays.toString(types);
    }

    private static void noPrivateMethodWithAPublicName() {
        for (Method method : PairBench.class.getDeclaredMethods()) {
            if (Modifier.isPrivate(method.getModifiers())) {
                String start = " " + method.getName() + "(";
                boolean open = FACE.stream().anyMatch(member -> member.contains(start));
                CHECK.due("private with a public name " + method, open, false);
            }
        }
    }

    private static void classesInside() {
        for (Class<?> inside : PairBench.class.getDeclaredClasses()) {
            int how = inside.getModifiers();
            boolean hidden = !Modifier.isPublic(how) && !Modifier.isProtected(how) && Modifier.isStatic(how);
            CHECK.due("hidden and static " + inside, hidden, true);
        }
    }
}

import java.lang.reflect.Constructor;
import java.lang.reflect.Field;
import java.lang.reflect.Member;
import java.lang.reflect.Method;
import java.lang.reflect.Modifier;
import java.util.Set;
import java.util.TreeSet;

/** The class has the face of the document and no other. */
public final class FaceTest {
    private static final Check CHECK = new Check();

    public static void main(String[] args) {
        constants();
        methods();
        nothingElseIsSeen();
        CHECK.end("FaceTest");
    }

    private static void constants() {
        CHECK.due("BAD", PairBench.BAD, -1);
        CHECK.due("FULL", PairBench.FULL, -2);
        CHECK.due("NO", PairBench.NO, -3);
        int seen = 0;
        for (Field field : PairBench.class.getDeclaredFields()) {
            seen += Modifier.isPublic(field.getModifiers()) ? 1 : 0;
            boolean changing = Modifier.isStatic(field.getModifiers()) && !Modifier.isFinal(field.getModifiers());
            CHECK.due("static state " + field, changing, false);
        }
        CHECK.due("public fields", seen, 3);
    }

    private static void methods() {
        Set<String> want = Set.of("int node(int)", "int edge(int,int,boolean)", "int count(int)",
                "boolean has(int,int)", "int partner(int,int)", "int edgeIs(int,int)", "int nodeIs(int,int)",
                "int cover(int,int,int)", "int hall(int,int)", "int part(int,int)", "int block(int,int)",
                "int leads(int,int)", "long pairings()", "int thing()", "int tell(int,int)", "boolean below(int,int)",
                "int about(int,int)", "int clearGraph()", "int clearThings()");
        Set<String> got = new TreeSet<>();
        Set<String> open = new TreeSet<>();
        for (Method method : PairBench.class.getDeclaredMethods()) {
            if (Modifier.isPublic(method.getModifiers())) {
                got.add(textOf(method));
                open.add(method.getName());
            }
        }
        CHECK.due("the public methods " + got, got.equals(want), true);
        for (Method method : PairBench.class.getDeclaredMethods()) {
            if (Modifier.isPrivate(method.getModifiers())) {
                CHECK.due("private with a public name " + method, open.contains(method.getName()), false);
            }
        }
        CHECK.due("public and final", Modifier.isPublic(PairBench.class.getModifiers())
                && Modifier.isFinal(PairBench.class.getModifiers()), true);
    }

    private static String textOf(Method method) {
        StringBuilder text = new StringBuilder(method.getReturnType() + " " + method.getName() + "(");
        for (Class<?> type : method.getParameterTypes()) {
            text.append(text.charAt(text.length() - 1) == '(' ? "" : ",").append(type);
        }
        return text.append(")").toString();
    }

    private static void nothingElseIsSeen() {
        Constructor<?>[] made = PairBench.class.getDeclaredConstructors();
        CHECK.due("constructors", made.length, 1);
        CHECK.due("constructor's parameters", made[0].getParameterCount(), 0);
        CHECK.due("constructor is public", Modifier.isPublic(made[0].getModifiers()), true);
        for (Field field : PairBench.class.getDeclaredFields()) {
            publicOrPrivate(field);
        }
        for (Method method : PairBench.class.getDeclaredMethods()) {
            publicOrPrivate(method);
        }
        for (Class<?> inside : PairBench.class.getDeclaredClasses()) {
            int how = inside.getModifiers();
            boolean hidden = !Modifier.isPublic(how) && !Modifier.isProtected(how) && Modifier.isStatic(how);
            CHECK.due("hidden and static " + inside, hidden, true);
        }
    }

    private static void publicOrPrivate(Member member) {
        int how = member.getModifiers();
        CHECK.due("public or private " + member, Modifier.isPublic(how) || Modifier.isPrivate(how), true);
    }
}

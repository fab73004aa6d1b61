import java.lang.reflect.Constructor;
import java.lang.reflect.Field;
import java.lang.reflect.Method;
import java.lang.reflect.Modifier;
import java.util.Arrays;
import java.util.TreeSet;

/** The face is the document's, to the letter, and nothing else can be seen. */
public final class FaceTest {
    private static final String[] FACE = {
        "int sign(int)", "boolean end(int)", "int land()", "int reach(int)", "int service(int)", "int limit(int)",
        "int shuts(int, int, boolean)", "int far(int, int)", "int reached(int)", "int node(int, int)",
        "int engine(int, int)", "int station(int)", "int call(int)", "int pair(int, int)", "int worstPair()",
        "int pass(int)", "int seed(int)", "int storms(int, int)", "int cover()", "int covers(int)", "int share()",
        "int best(int)", "int nested()", "int greedy()", "int dearest()", "int dearestRoad()", "int least(int)",
        "int twice(int)", "int spread()", "int state(int)", "int worst(int)", "int states(int)", "int expects(int)",
        "int bestFor(int)", "int regret()", "int moves(int)", "int up(int)", "int post(int, int)",
        "int swap(int, int)", "int left()", "int needs()", "int keeps()", "int back()", "int count(int)",
        "long row(int)"};

    public static void main(String[] args) {
        TreeSet<String> methods = new TreeSet<>();
        TreeSet<String> names = new TreeSet<>();
        for (Method m : EnginesOut.class.getDeclaredMethods()) {
            if (!Modifier.isPrivate(m.getModifiers())) {
                Checks.due(m + " is public", Modifier.isPublic(m.getModifiers()) && !Modifier.isStatic(m.getModifiers()), true);
                methods.add(told(m));
                names.add(m.getName());
            }
        }
        Checks.due("the methods are " + methods, methods.equals(new TreeSet<>(Arrays.asList(FACE))), true);
        for (Field f : EnginesOut.class.getDeclaredFields()) {
            boolean isNone = f.getName().equals("NONE") && f.getModifiers() == (Modifier.PUBLIC | Modifier.STATIC | Modifier.FINAL);
            Checks.due(f + " is hidden", isNone || Modifier.isPrivate(f.getModifiers()), true);
        }
        Constructor<?>[] constructors = EnginesOut.class.getDeclaredConstructors();
        Checks.due("constructors", constructors.length, 1);
        Checks.due("it takes", constructors[0].getParameterCount(), 0);
        Checks.due("it is public", Modifier.isPublic(constructors[0].getModifiers()), true);
        Checks.due("the class", EnginesOut.class.getModifiers(), Modifier.PUBLIC | Modifier.FINAL);
        Checks.due("classes inside, with it", EnginesOut.class.getDeclaredClasses().length + 1 <= 12, true);
        for (Class<?> inside : EnginesOut.class.getDeclaredClasses()) {
            Checks.due(inside + " is static", Modifier.isStatic(inside.getModifiers()) && !Modifier.isPublic(inside.getModifiers()), true);
            for (Method m : inside.getDeclaredMethods()) {
                Checks.due(inside + "." + m.getName() + " bears a name of the face", names.contains(m.getName()), false);
            }
        }
        for (Method m : EnginesOut.class.getDeclaredMethods()) {
            if (Modifier.isPrivate(m.getModifiers())) {
                Checks.due(m.getName() + " bears a name of the face", names.contains(m.getName()), false);
            }
        }
        Checks.close("FaceTest");
    }

    private static String told(Method m) {
        StringBuilder is = new StringBuilder(m.getReturnType() + " " + m.getName() + "(");
        for (Class<?> type : m.getParameterTypes()) {
            is.append(is.charAt(is.length() - 1) == '(' ? "" : ", ").append(type);
        }
        return is.append(")").toString();
    }
}

import java.lang.reflect.Constructor;
import java.lang.reflect.Field;
import java.lang.reflect.Method;
import java.lang.reflect.Modifier;
import java.util.Set;
import java.util.TreeSet;

/** The class shows the face that the document gives it, and nothing else. */
public final class FaceTest {
    private static final Set<String> FACE = Set.of(
            "public void FlatSolver.allow(int,int)",
            "public int FlatSolver.token(int,int)",
            "public void FlatSolver.clear()",
            "public int FlatSolver.conditions()",
            "public int FlatSolver.solutions()",
            "public int FlatSolver.solution(int,int)",
            "public int FlatSolver.with(int,int)",
            "public int FlatSolver.evaluate(int)",
            "public int FlatSolver.greatest()");

    public static void main(String[] args) {
        Checks checks = new Checks();
        Class<?> face = FlatSolver.class;
        checks.due("class modifiers", face.getModifiers(), Modifier.PUBLIC | Modifier.FINAL);
        checks.due("nested classes", face.getDeclaredClasses().length, 0);

        Constructor<?>[] constructors = face.getDeclaredConstructors();
        checks.due("constructors", constructors.length, 1);
        checks.holds("the constructor is public and takes nothing",
                constructors[0].toString().equals("public FlatSolver()"));

        Set<String> shown = new TreeSet<>();
        for (Method method : face.getDeclaredMethods()) {
            if (!Modifier.isPrivate(method.getModifiers())) {
                shown.add(method.toString());
            }
        }
        checks.holds("the face is that of the document, not " + shown, shown.equals(new TreeSet<>(FACE)));

        for (Field field : face.getDeclaredFields()) {
            int modifiers = field.getModifiers();
            checks.holds(field + " is private", Modifier.isPrivate(modifiers));
            checks.holds(field + " is a number's constant if static", !Modifier.isStatic(modifiers)
                    || Modifier.isFinal(modifiers) && (field.getType() == int.class || field.getType() == long.class));
        }
        checks.end();
    }
}

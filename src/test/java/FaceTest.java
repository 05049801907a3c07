import java.lang.reflect.Constructor;
import java.lang.reflect.Field;
import java.lang.reflect.Method;
import java.lang.reflect.Modifier;
import java.util.Set;
import java.util.TreeSet;

/** The public face is the document's, and all else in the class is private. */
public final class FaceTest {
    private static final Set<String> FACE = Set.of(
        "public static final int ClauseSolver.REFUSED",
        "public static final int ClauseSolver.NONE",
        "public static final int ClauseSolver.FULL",
        "public ClauseSolver(int)",
        "public boolean ClauseSolver.wish(int,boolean)",
        "public int ClauseSolver.literal(int,boolean)",
        "public int ClauseSolver.clause()",
        "public int ClauseSolver.some(int,int)",
        "public int ClauseSolver.drop(int)",
        "public boolean ClauseSolver.solve()",
        "public int ClauseSolver.answer()",
        "public int ClauseSolver.count(int)");

    public static void main(String[] args) {
        Due due = new Due();
        Set<String> open = new TreeSet<>();
        for (Field field : ClauseSolver.class.getDeclaredFields()) {
            note(open, field.getModifiers(), field.toString());
            boolean isStatic = Modifier.isStatic(field.getModifiers());
            boolean isFinal = Modifier.isFinal(field.getModifiers());
            due.is(field + " is no changing static", isStatic && !isFinal, false);
        }
        for (Constructor<?> constructor : ClauseSolver.class.getDeclaredConstructors()) {
            note(open, constructor.getModifiers(), constructor.toString());
        }
        for (Method method : ClauseSolver.class.getDeclaredMethods()) {
            note(open, method.getModifiers(), method.toString());
        }
        for (String member : open) {
            due.is(member + " is in the face", FACE.contains(member), true);
        }
        for (String member : FACE) {
            due.is(member + " is there", open.contains(member), true);
        }
        due.is("the class's modifiers", ClauseSolver.class.getModifiers(), Modifier.PUBLIC | Modifier.FINAL);
        due.end();
    }

    private static void note(Set<String> open, int modifiers, String member) {
        if (!Modifier.isPrivate(modifiers)) {
            open.add(member);
        }
    }
}

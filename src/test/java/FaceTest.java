import java.lang.reflect.Constructor;
import java.lang.reflect.Field;
import java.lang.reflect.Method;
import java.lang.reflect.Modifier;
import java.util.Set;
import java.util.TreeSet;

/** The public face is the one of the document, and all else is private. */
public final class FaceTest {
    private static final Set<String> FACE = Set.of(
            "public static final int SortedSolver.NONE",
            "public SortedSolver()",
            "public boolean SortedSolver.below(int,int)",
            "public boolean SortedSolver.atMost(int,int)",
            "public boolean SortedSolver.constant(int,int)",
            "public boolean SortedSolver.rankF(int,int,boolean)",
            "public boolean SortedSolver.rankG(int,int,int,boolean)",
            "public boolean SortedSolver.variable(int,int)",
            "public int SortedSolver.feed(int,int)",
            "public int SortedSolver.back(int)",
            "public boolean SortedSolver.complete(int)",
            "public int SortedSolver.sorts(int)",
            "public int SortedSolver.solutions()",
            "public int SortedSolver.first(int)",
            "public int SortedSolver.values(int)",
            "public int SortedSolver.solutionsWith(int,int)",
            "public int SortedSolver.solutionsAlike(int,int)");

    public static void main(String[] args) {
        Set<String> open = new TreeSet<>();
        for (Field field : SortedSolver.class.getDeclaredFields()) {
            addIfOpen(open, field.getModifiers(), field.toString());
        }
        for (Constructor<?> constructor : SortedSolver.class.getDeclaredConstructors()) {
            addIfOpen(open, constructor.getModifiers(), constructor.toString());
        }
        for (Method method : SortedSolver.class.getDeclaredMethods()) {
            addIfOpen(open, method.getModifiers(), method.toString());
        }
        for (String member : FACE) {
            Check.due("has " + member, open.contains(member), true);
        }
        for (String member : open) {
            Check.due("may have " + member, FACE.contains(member), true);
        }
        int modifiers = SortedSolver.class.getModifiers();
        Check.due("class modifiers", modifiers, Modifier.PUBLIC | Modifier.FINAL);
        Check.due("NONE", SortedSolver.NONE, -1);
        Check.end();
    }

    private static void addIfOpen(Set<String> open, int modifiers, String member) {
        if (!Modifier.isPrivate(modifiers)) {
            open.add(member);
        }
    }
}

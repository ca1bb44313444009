import java.lang.reflect.Constructor;
import java.lang.reflect.Field;
import java.lang.reflect.Method;
import java.lang.reflect.Modifier;
import java.util.ArrayList;
import java.util.Arrays;
import java.util.Collections;
import java.util.HashSet;
import java.util.List;
import java.util.Set;

/** The public face is the document's, and no other member of the class can be seen from outside. */
public final class FaceTest {
    private static final String[] FACE = {
        "public static final int NONE",
        "public HoistPlanner()",
        "public void line(int) throws IllegalArgumentException",
        "public void soak(int,int,int) throws IllegalArgumentException",
        "public void loaded(int,int) throws IllegalArgumentException",
        "public void empty(int,int,int) throws IllegalArgumentException",
        "public int ready()",
        "public int solve() throws IllegalStateException",
        "public int least(int) throws IllegalStateException,IllegalArgumentException",
        "public int plan(int,int) throws IllegalStateException,IllegalArgumentException",
        "public int run(int) throws IllegalStateException,IllegalArgumentException",
        "public void stop(boolean) throws IllegalStateException",
        "public int tank(int) throws IllegalStateException,IllegalArgumentException",
        "public int state(int) throws IllegalStateException,IllegalArgumentException",
    };

    public static void main(String[] args) {
        Check check = new Check();
        List<String> want = new ArrayList<>(Arrays.asList(FACE));
        List<String> got = seenFromOutside();
        Collections.sort(want);
        Collections.sort(got);
        check.dueText("the face", got.toString(), want.toString());
        check.due("NONE", HoistPlanner.NONE, -1);
        check.dueText("the class", Modifier.toString(HoistPlanner.class.getModifiers()), "public final");
        checkNestedClasses(check);
        check.end();
    }

    private static List<String> seenFromOutside() {
        List<String> seen = new ArrayList<>();
        for (Field f : HoistPlanner.class.getDeclaredFields()) {
            addIfSeen(seen, f.getModifiers(), f.toGenericString().replace("HoistPlanner.", ""));
        }
        for (Constructor<?> c : HoistPlanner.class.getDeclaredConstructors()) {
            addIfSeen(seen, c.getModifiers(), c.toGenericString());
        }
        for (Method m : HoistPlanner.class.getDeclaredMethods()) {
            addIfSeen(seen, m.getModifiers(), m.toGenericString().replace("HoistPlanner.", ""));
        }
        return seen;
    }

    private static void addIfSeen(List<String> seen, int modifiers, String text) {
        if (!Modifier.isPrivate(modifiers)) {
            seen.add(text.replace("java.lang.", ""));
        }
    }

    private static void checkNestedClasses(Check check) {
        Set<String> publicNames = new HashSet<>();
        for (Method m : HoistPlanner.class.getMethods()) {
            if (m.getDeclaringClass() == HoistPlanner.class) {
                publicNames.add(m.getName());
            }
        }
        for (Class<?> nested : HoistPlanner.class.getDeclaredClasses()) {
            int modifiers = nested.getModifiers();
            boolean isHidden = !Modifier.isPublic(modifiers) && !Modifier.isProtected(modifiers);
            check.due(nested + " is hidden and static", isHidden && Modifier.isStatic(modifiers) ? 1 : 0, 1);
            for (Method m : nested.getDeclaredMethods()) {
                check.due(m + " bears the name of a public method", publicNames.contains(m.getName()) ? 1 : 0, 0);
            }
        }
    }
}

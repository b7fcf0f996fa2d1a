import java.lang.reflect.Constructor;
import java.lang.reflect.Field;
import java.lang.reflect.Method;
import java.lang.reflect.Modifier;
import java.util.Set;
import java.util.TreeSet;

/** The face of the document: every member of it, and no other that can be seen from outside. */
public final class FaceTest {
    private static final Set<String> FACE = Set.of(
            "public static final int NONE",
            "public RunOrder(int,int)",
            "public boolean slots(int)",
            "public int action(int,int,int)",
            "public boolean about(int,boolean,int,int)",
            "public boolean fails(int,int,int)",
            "public int needs(int,int)",
            "public boolean wish(int,boolean)",
            "public boolean mode(int,boolean)",
            "public boolean retries(int,int)",
            "public int run()",
            "public int rest(int)",
            "public int outcome(int,int)",
            "public int first()",
            "public int order(int)",
            "public int peak(int)");

    public static void main(String[] args) {
        Checks checks = new Checks("FaceTest");
        Set<String> seen = visibleMembers();
        for (String member : FACE) {
            checks.due("there is " + member, seen.contains(member), true);
        }
        for (String member : seen) {
            checks.due("the face has " + member, FACE.contains(member), true);
        }
        checks.due("final", Modifier.isFinal(RunOrder.class.getModifiers()), true);
        checks.due("public", Modifier.isPublic(RunOrder.class.getModifiers()), true);
        checks.due("NONE", RunOrder.NONE, -1);
        checkNestedClasses(checks);
        checks.end();
    }

    private static Set<String> visibleMembers() {
        Set<String> seen = new TreeSet<>();
        for (Field f : RunOrder.class.getDeclaredFields()) {
            addVisible(seen, f.getModifiers(), f.toGenericString());
        }
        for (Constructor<?> c : RunOrder.class.getDeclaredConstructors()) {
            addVisible(seen, c.getModifiers(), c.toGenericString());
        }
        for (Method m : RunOrder.class.getDeclaredMethods()) {
            addVisible(seen, m.getModifiers(), m.toGenericString());
        }
        return seen;
    }

    private static void addVisible(Set<String> seen, int modifiers, String text) {
        if (!Modifier.isPrivate(modifiers)) {
            seen.add(text.replace("RunOrder.", "").replace(", ", ","));
        }
    }

    private static void checkNestedClasses(Checks checks) {
        for (Class<?> c : RunOrder.class.getDeclaredClasses()) {
            int modifiers = c.getModifiers();
            boolean hidden = !Modifier.isPublic(modifiers) && !Modifier.isProtected(modifiers);
            checks.due(c + " is hidden and static", hidden && Modifier.isStatic(modifiers), true);
        }
    }
}

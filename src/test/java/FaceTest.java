import java.lang.reflect.Constructor;
import java.lang.reflect.Field;
import java.lang.reflect.Method;
import java.lang.reflect.Modifier;
import java.util.Set;
import java.util.TreeSet;

/** The class shows the face that the document gives it, and nothing else. */
public final class FaceTest {
    private static final Check check = new Check();

    private static final Set<String> FACE = Set.of(
        "final BAD int", "final FULL int", "new()",
        "write(int) int", "draft() int", "post(int,int) int", "link(int,int,boolean) boolean",
        "links(int) int", "distance(int,int) int", "disturb(int,int,int) boolean",
        "forget(int) boolean", "settle() int", "waiting(int,int) int", "arrived(int,int) int",
        "length(int,int,int) int", "byteAt(int,int,int) int", "take(int,int) int",
        "messages() int", "ready() int");

    public static void main(String[] args) {
        Class<?> c = MovingMesh.class;
        check.due("public", Modifier.isPublic(c.getModifiers()), true);
        check.due("final", Modifier.isFinal(c.getModifiers()), true);
        check.due("nested classes", c.getDeclaredClasses().length, 0);
        Set<String> seen = new TreeSet<>();
        for (Field f : c.getDeclaredFields()) {
            if (!Modifier.isPrivate(f.getModifiers())) {
                check.due(f + " is a constant", Modifier.isStatic(f.getModifiers()), true);
                seen.add((Modifier.isFinal(f.getModifiers()) ? "final " : "") + f.getName() + " " + f.getType());
            }
        }
        for (Constructor<?> k : c.getDeclaredConstructors()) {
            check.due(k + " is public", Modifier.isPublic(k.getModifiers()), true);
            seen.add("new" + parameters(k.getParameterTypes()));
        }
        Set<String> publicNames = new TreeSet<>();
        for (Method m : c.getDeclaredMethods()) {
            if (!Modifier.isPrivate(m.getModifiers())) {
                check.due(m + " is public", Modifier.isPublic(m.getModifiers()), true);
                check.due(m + " is static", Modifier.isStatic(m.getModifiers()), false);
                publicNames.add(m.getName());
                seen.add(m.getName() + parameters(m.getParameterTypes()) + " " + m.getReturnType());
            }
        }
        for (Method m : c.getDeclaredMethods()) {
            if (Modifier.isPrivate(m.getModifiers())) {
                check.due(m + " has a public name", publicNames.contains(m.getName()), false);
            }
        }
        for (String one : FACE) {
            check.due("has " + one, seen.contains(one), true);
        }
        for (String one : seen) {
            check.due("may have " + one, FACE.contains(one), true);
        }
        check.end();
    }

    private static String parameters(Class<?>[] types) {
        StringBuilder s = new StringBuilder("(");
        for (int i = 0; i < types.length; i++) {
            s.append(i == 0 ? "" : ",").append(types[i]);
        }
        return s.append(")").toString();
    }
}

import java.lang.reflect.Constructor;
import java.lang.reflect.Field;
import java.lang.reflect.Member;
import java.lang.reflect.Method;
import java.lang.reflect.Modifier;
import java.util.Set;
import java.util.TreeSet;

/** The document's face, whole and nothing beside it. */
public final class FaceTest {
    private static final String[] FACE = {
        "about(int,int)", "acts(int,int,int,int,int,int)", "classOf(int,int,int)", "count(int)", "cyclic(int)",
        "dihedral(int)", "dimension(int,int)", "drop()", "element(int,int,int)", "lay(int,int,int)", "leave()",
        "made(int,int,int)", "module(int,int,int)", "order(int)", "over(int,int)", "pair(int,int)",
        "parts(int,int)", "product(int,int,int)", "quaternions()", "same(int,int,int)", "sheet(int,int,int)",
        "sound(int)", "sum(int,int,int)", "table(int,int,int)", "times(int,int,int)",
        "twist(int,int,int,int,int)"};

    private FaceTest() {
    }

    public static void main(String[] args) {
        Class<?> face = GroupTowers.class;
        Check.due("public and final", face.getModifiers(), Modifier.PUBLIC | Modifier.FINAL);
        Set<String> found = new TreeSet<>();
        Set<String> publicNames = new TreeSet<>();
        for (Method m : face.getDeclaredMethods()) {
            if (Modifier.isPublic(m.getModifiers())) {
                String types = java.util.Arrays.toString(m.getParameterTypes());
                found.add(m.getName() + "(" + types.substring(1, types.length() - 1).replace(" ", "") + ")");
                publicNames.add(m.getName());
                Check.due(m + " answers an int", m.getReturnType() == int.class ? 1 : 0, 1);
            }
        }
        Check.due("methods: " + found, found.equals(new TreeSet<>(java.util.Arrays.asList(FACE))) ? 1 : 0, 1);
        for (Method m : face.getDeclaredMethods()) {
            Check.due(m + " hides nothing", isHidden(m) && publicNames.contains(m.getName()) ? 1 : 0, 0);
            Check.due(m + " is public or private", isHidden(m) || Modifier.isPublic(m.getModifiers()) ? 1 : 0, 1);
        }
        constants(face);
        Constructor<?>[] made = face.getDeclaredConstructors();
        Check.due("constructors", made.length, 1);
        Check.due("public", made[0].getModifiers(), Modifier.PUBLIC);
        Check.due("of nothing", made[0].getParameterCount(), 0);
        for (Class<?> inside : face.getDeclaredClasses()) {
            Check.due(inside + " is static", Modifier.isStatic(inside.getModifiers()) ? 1 : 0, 1);
            Check.due(inside + " is not public", Modifier.isPublic(inside.getModifiers()) ? 1 : 0, 0);
            for (Method m : inside.getDeclaredMethods()) {
                Check.due(m + " has a name of its own", publicNames.contains(m.getName()) ? 1 : 0, 0);
            }
        }
        Check.end();
    }

    private static boolean isHidden(Member m) {
        return Modifier.isPrivate(m.getModifiers());
    }

    private static void constants(Class<?> face) {
        int shown = 0;
        for (Field f : face.getDeclaredFields()) {
            if (!isHidden(f)) {
                shown++;
                Check.due(f + " is a constant", f.getModifiers(), Modifier.PUBLIC | Modifier.STATIC | Modifier.FINAL);
            }
        }
        Check.due("constants", shown, 5);
        Check.due("BAD", GroupTowers.BAD, -1);
        Check.due("STATE", GroupTowers.STATE, -2);
        Check.due("FULL", GroupTowers.FULL, -3);
        Check.due("NONE", GroupTowers.NONE, -4);
        Check.due("SPENT", GroupTowers.SPENT, -5);
    }
}

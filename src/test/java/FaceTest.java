import java.lang.reflect.Constructor;
import java.lang.reflect.Field;
import java.lang.reflect.Method;
import java.lang.reflect.Modifier;
import java.util.Set;
import java.util.TreeSet;

/** The public face of the document, and no other member that is not private. */
public final class FaceTest {
    private static final Set<String> METHODS = Set.of(
        "public boolean OctreeSolid.box(int,int,int,int)",
        "public boolean OctreeSolid.combine(int,int,int,int)",
        "public boolean OctreeSolid.turn(int,int)",
        "public boolean OctreeSolid.mirror(int,int,int)",
        "public int OctreeSolid.volume(int)",
        "public boolean OctreeSolid.has(int,int)",
        "public boolean OctreeSolid.same(int,int)",
        "public boolean OctreeSolid.inside(int,int)",
        "public int OctreeSolid.cubes(int)",
        "public int OctreeSolid.order(int,int)",
        "public int OctreeSolid.surface(int)",
        "public int OctreeSolid.next(int,int)",
        "public int OctreeSolid.kinds(int,int)");

    public static void main(String[] args) {
        Checks checks = new Checks();
        Class<?> type = OctreeSolid.class;
        checks.due("class is public and final", Modifier.PUBLIC | Modifier.FINAL,
            type.getModifiers() & (Modifier.PUBLIC | Modifier.FINAL));
        checks.due("BAD", -1, OctreeSolid.BAD);
        checks.due("nested classes", 0, type.getDeclaredClasses().length);
        checks.due("methods are those of the document", true, openMethods(type).equals(METHODS));
        checks.due("fields are those of the document", true,
            openFields(type).equals(Set.of("public static final int OctreeSolid.BAD")));
        checks.due("constructors are those of the document", true,
            openConstructors(type).equals(Set.of("public OctreeSolid()")));
        checks.due("private methods named like public ones", 0, sharedNames(type));
        checks.finish();
    }

    private static Set<String> openMethods(Class<?> type) {
        Set<String> found = new TreeSet<>();
        for (Method m : type.getDeclaredMethods()) {
            if (!Modifier.isPrivate(m.getModifiers())) {
                found.add(m.toString());
            }
        }
        return found;
    }

    private static Set<String> openFields(Class<?> type) {
        Set<String> found = new TreeSet<>();
        for (Field f : type.getDeclaredFields()) {
            if (!Modifier.isPrivate(f.getModifiers())) {
                found.add(f.toString());
            }
        }
        return found;
    }

    private static Set<String> openConstructors(Class<?> type) {
        Set<String> found = new TreeSet<>();
        for (Constructor<?> c : type.getDeclaredConstructors()) {
            found.add(c.toString());
        }
        return found;
    }

    private static int sharedNames(Class<?> type) {
        Set<String> open = new TreeSet<>();
        for (Method m : type.getDeclaredMethods()) {
            if (!Modifier.isPrivate(m.getModifiers())) {
                open.add(m.getName());
            }
        }
        int shared = 0;
        for (Method m : type.getDeclaredMethods()) {
            if (Modifier.isPrivate(m.getModifiers()) && open.contains(m.getName())) {
                shared++;
            }
        }
        return shared;
    }
}

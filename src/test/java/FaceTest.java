import java.lang.reflect.Constructor;
import java.lang.reflect.Field;
import java.lang.reflect.Method;
import java.lang.reflect.Modifier;
import java.util.Set;
import java.util.TreeSet;

/** The public face is the document's, and nothing beside it can be seen from outside. */
public final class FaceTest {
    private static final Set<String> FACE = Set.of(
        "public static final int ModuleTree.LOOSE",
        "public static final int ModuleTree.TIGHT",
        "public static final int ModuleTree.PRIME",
        "public static final int ModuleTree.BAD",
        "public static final int ModuleTree.NONE",
        "public ModuleTree(int)",
        "public boolean ModuleTree.join(int,int,boolean)",
        "public void ModuleTree.complement()",
        "public boolean ModuleTree.isModule(int)",
        "public boolean ModuleTree.isStrong(int)",
        "public int ModuleTree.around(int,int)",
        "public int ModuleTree.strongAround(int,int)",
        "public int ModuleTree.strong()",
        "public int ModuleTree.modules()",
        "public int ModuleTree.kind(int)",
        "public int ModuleTree.children(int)",
        "public int ModuleTree.parent(int)");

    public static void main(String[] args) {
        Checks checks = new Checks();
        Set<String> seen = visibleMembers();
        for (String member : FACE) {
            checks.due("has " + member, seen.contains(member), true);
        }
        for (String member : seen) {
            checks.due("promises " + member, FACE.contains(member), true);
        }
        int modifiers = ModuleTree.class.getModifiers();
        checks.due("public final class", modifiers, Modifier.PUBLIC | Modifier.FINAL);
        checks.due("no package", ModuleTree.class.getPackageName().isEmpty(), true);
        checks.due("inherits from Object alone", ModuleTree.class.getSuperclass() == Object.class, true);
        checks.due("interfaces", ModuleTree.class.getInterfaces().length, 0);
        checks.due("nested classes", ModuleTree.class.getDeclaredClasses().length, 0);
        checks.due("LOOSE", ModuleTree.LOOSE, 0);
        checks.due("TIGHT", ModuleTree.TIGHT, 1);
        checks.due("PRIME", ModuleTree.PRIME, 2);
        checks.due("BAD", ModuleTree.BAD, -1);
        checks.due("NONE", ModuleTree.NONE, -2);
        checks.end();
    }

    private static Set<String> visibleMembers() {
        Set<String> seen = new TreeSet<>();
        for (Field field : ModuleTree.class.getDeclaredFields()) {
            if (!Modifier.isPrivate(field.getModifiers())) {
                seen.add(field.toString());
            }
        }
        for (Method method : ModuleTree.class.getDeclaredMethods()) {
            if (!Modifier.isPrivate(method.getModifiers())) {
                seen.add(method.toString());
            }
        }
        for (Constructor<?> constructor : ModuleTree.class.getDeclaredConstructors()) {
            seen.add(constructor.toString());
        }
        return seen;
    }
}

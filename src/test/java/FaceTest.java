import java.lang.reflect.Constructor;
import java.lang.reflect.Field;
import java.lang.reflect.Method;
import java.lang.reflect.Modifier;
import java.util.Arrays;
import java.util.Set;
import java.util.TreeSet;

/** "The public face" of the document: all that it lists, and nothing else that another class could use. */
public final class FaceTest {
    private static final String CLASS_LINE = "public final class LevelMachine {";
    private static final String[] MEMBERS = {
        "public static final int NONE = -1;",
        "public LevelMachine();",
        "public boolean poke(int a, int w);",
        "public int peek(int a);",
        "public boolean describe(int k, int first, int second, int kind, int rank, boolean there);",
        "public boolean set(int r, int v);",
        "public boolean force(int q, int s);",
        "public int step(int n);",
        "public boolean wake();",
        "public int state(int what);",
        "public int segment(int q, int what);",
    };

    public static void main(String[] args) {
        theClass();
        theMembers();
        theConstant();
        nothingElse();
        Rig.finish();
    }

    private static void theClass() {
        Rig.sentence(CLASS_LINE);
        int modifiers = LevelMachine.class.getModifiers();
        Rig.due("the class is public", Modifier.isPublic(modifiers), true);
        Rig.due("the class is final", Modifier.isFinal(modifiers), true);
        Rig.due("the class stands in no package", LevelMachine.class.getPackageName().isEmpty(), true);
        Rig.due("it extends Object alone", LevelMachine.class.getSuperclass() == Object.class, true);
        Rig.due("interfaces", LevelMachine.class.getInterfaces().length, 0);
    }

    private static void theMembers() {
        Set<String> found = visibleMembers();
        for (String line : MEMBERS) {
            Rig.sentence(line);
            Rig.due("the class has " + line, found.contains(withoutNames(line)), true);
        }
    }

    private static void theConstant() {
        Rig.sentence(MEMBERS[0]);
        Rig.due("NONE", LevelMachine.NONE, -1);
    }

    private static void nothingElse() {
        Set<String> due = new TreeSet<>();
        for (String line : MEMBERS) {
            due.add(withoutNames(line));
        }
        for (String found : visibleMembers()) {
            Rig.due("the document has " + found, due.contains(found), true);
        }
        Rig.due("members", visibleMembers().size(), MEMBERS.length);
    }

    /** The types are all that the class itself can tell. */
    private static String withoutNames(String line) {
        return line.replaceAll("(int|boolean) \\w+(?=[,)])", "$1").replace(" = -1", "");
    }

    private static Set<String> visibleMembers() {
        Set<String> found = new TreeSet<>();
        for (Field field : LevelMachine.class.getDeclaredFields()) {
            add(found, field.getModifiers(), field.getType().getSimpleName() + " " + field.getName() + ";");
        }
        for (Constructor<?> maker : LevelMachine.class.getDeclaredConstructors()) {
            add(found, maker.getModifiers(), "LevelMachine" + types(maker.getParameterTypes()));
        }
        for (Method method : LevelMachine.class.getDeclaredMethods()) {
            String result = method.getReturnType().getSimpleName();
            add(found, method.getModifiers(), result + " " + method.getName() + types(method.getParameterTypes()));
        }
        return found;
    }

    private static void add(Set<String> found, int modifiers, String member) {
        if (!Modifier.isPrivate(modifiers)) {
            found.add(Modifier.toString(modifiers) + " " + member);
        }
    }

    private static String types(Class<?>[] types) {
        return "(" + String.join(", ", Arrays.stream(types).map(Class::getSimpleName).toList()) + ");";
    }
}

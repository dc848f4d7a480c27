import java.io.IOException;
import java.lang.reflect.Field;
import java.lang.reflect.Method;
import java.lang.reflect.Modifier;
import java.nio.file.Files;
import java.nio.file.Path;
import java.util.ArrayList;
import java.util.HashSet;
import java.util.List;
import java.util.Map;
import java.util.Set;
import java.util.TreeMap;
import java.util.TreeSet;
import java.util.regex.Matcher;
import java.util.regex.Pattern;

/** The rules of LANGUAGE.md, as far as the class and the lines of its source can tell whether they are kept. */
public final class LanguageTest {
    private static final Path SOURCE = Path.of("src/main/java/LevelMachine.java");
    private static final int MOST_DEPTH = 8, MOST_PARAMETERS = 7, MOST_LINES = 60, MOST_CLASSES = 12, MOST_FIELDS = 20;

    /** What rules 2, 3, 6 and 13 leave out, and what the class can do without of what they leave in. */
    private static final String[] LEFT_OUT = {
        "import", "package", "throw", "throws", "try", "catch", "finally", "synchronized", "assert", "volatile",
        "transient", "native", "protected", "double", "float", "Object", "Thread", "Random", "equals", "hashCode",
        "toString", "interface", "instanceof",
    };
    private static final Pattern METHOD = Pattern.compile("( +)[\\w\\[\\] ]*?(\\w+)\\([^()]*\\) \\{");
    private static final Pattern CALL = Pattern.compile("(?<!new )\\b(\\w+)\\(");

    private static final Map<String, List<String>> BODIES = new TreeMap<>();

    public static void main(String[] args) throws IOException {
        List<String> lines = codeLines();
        classes();
        names();
        staticFields();
        words(lines);
        cutIntoMethods(lines);
        lengths();
        depth();
        Rig.finish();
    }

    private static List<Class<?>> allClasses() {
        List<Class<?>> all = new ArrayList<>(List.of(LevelMachine.class.getDeclaredClasses()));
        all.add(LevelMachine.class);
        return all;
    }

    /** Rules 1, 2 and 11. */
    private static void classes() {
        Rig.due("at most " + MOST_CLASSES + " classes", allClasses().size() <= MOST_CLASSES, true);
        for (Class<?> inside : LevelMachine.class.getDeclaredClasses()) {
            int modifiers = inside.getModifiers();
            Rig.due(inside + " is static", Modifier.isStatic(modifiers), true);
            boolean shown = Modifier.isPublic(modifiers) || Modifier.isProtected(modifiers);
            Rig.due(inside + " is public or protected", shown, false);
            Rig.due("classes in " + inside, inside.getDeclaredClasses().length, 0);
        }
        for (Class<?> any : allClasses()) {
            int fields = 0;
            for (Field field : any.getDeclaredFields()) {
                fields += Modifier.isStatic(field.getModifiers()) ? 0 : 1;
            }
            Rig.due("at most " + MOST_FIELDS + " fields in " + any, fields <= MOST_FIELDS, true);
        }
    }

    /** Rules 1 and 11. */
    private static void names() {
        Set<String> face = new TreeSet<>();
        for (Method method : LevelMachine.class.getMethods()) {
            face.add(method.getName());
        }
        for (Class<?> any : allClasses()) {
            for (Method method : any.getDeclaredMethods()) {
                boolean shown = Modifier.isPublic(method.getModifiers());
                Rig.due(method + " has a name of its own", shown || !face.contains(method.getName()), true);
                Rig.due(method + " has few parameters", method.getParameterCount() <= MOST_PARAMETERS, true);
            }
        }
    }

    /** Rule 5. */
    private static void staticFields() {
        Set<String> types = Set.of("int", "boolean", "char", "long", "String", "int[]", "long[]", "char[]", "byte[]");
        for (Class<?> any : allClasses()) {
            for (Field field : any.getDeclaredFields()) {
                if (Modifier.isStatic(field.getModifiers())) {
                    Rig.due(field + " is final", Modifier.isFinal(field.getModifiers()), true);
                    Rig.due(field + " is a constant", types.contains(field.getType().getSimpleName()), true);
                }
            }
        }
    }

    private static void words(List<String> lines) {
        for (String line : lines) {
            for (String word : LEFT_OUT) {
                Rig.due(word + " in" + line, line.matches(".*\\b" + word + "\\b.*"), false);
            }
            Rig.due("a lambda in" + line, line.contains("->") || line.contains("::"), false);
            Rig.due("a static block:" + line, line.matches(" +static \\{"), false);
        }
    }

    /** The source without its comments, each of which has lines or the end of a line to itself. */
    private static List<String> codeLines() throws IOException {
        List<String> lines = new ArrayList<>();
        for (String line : Files.readAllLines(SOURCE)) {
            String code = line.replaceAll("//.*", "").stripTrailing();
            if (!code.isEmpty() && !code.matches(" *(/\\*\\*|\\*).*")) {
                lines.add(code);
            }
        }
        return lines;
    }

    /** A method ends at the brace that stands as far in as its first line. */
    private static void cutIntoMethods(List<String> lines) {
        for (int i = 0; i < lines.size(); i++) {
            Matcher head = METHOD.matcher(lines.get(i));
            if (head.matches() && head.group(1).length() <= 8 && isName(head.group(2))) {
                int end = i + 1;
                while (!lines.get(end).equals(head.group(1) + "}")) {
                    end++;
                }
                boolean another = BODIES.put(head.group(2), lines.subList(i + 1, end)) != null;
                Rig.due("another method " + head.group(2), another, false);
            }
        }
        for (Class<?> any : allClasses()) {
            for (Method method : any.getDeclaredMethods()) {
                Rig.due(method + " is found in the source", BODIES.containsKey(method.getName()), true);
            }
        }
    }

    private static boolean isName(String word) {
        return !Set.of("if", "for", "while", "switch").contains(word);
    }

    /** Rule 11. */
    private static void lengths() {
        BODIES.forEach((name, body) -> Rig.due(name + " is short", body.size() <= MOST_LINES, true));
    }

    /** Rules 8 and 11; the class needs no recursion, so that none is let through. */
    private static void depth() {
        for (String name : BODIES.keySet()) {
            int deep = depthOf(name, new HashSet<>());
            Rig.due(name + " goes at most " + MOST_DEPTH + " deep, not " + deep, deep <= MOST_DEPTH, true);
        }
    }

    private static int depthOf(String name, Set<String> open) {
        open.add(name);
        int deepest = 0;
        for (String called : calledBy(name)) {
            boolean again = open.contains(called);
            Rig.due(name + " calls " + called + ", which has not ended", again, false);
            deepest = Math.max(deepest, again ? 0 : depthOf(called, open));
        }
        open.remove(name);
        return deepest + 1;
    }

    private static Set<String> calledBy(String name) {
        Set<String> called = new TreeSet<>();
        for (String line : BODIES.get(name)) {
            Matcher call = CALL.matcher(line);
            while (call.find()) {
                if (BODIES.containsKey(call.group(1))) {
                    called.add(call.group(1));
                }
            }
        }
        return called;
    }
}

import java.io.IOException;
import java.lang.reflect.Constructor;
import java.lang.reflect.Field;
import java.lang.reflect.Method;
import java.lang.reflect.Modifier;
import java.nio.file.Files;
import java.nio.file.Path;
import java.util.ArrayDeque;
import java.util.Deque;
import java.util.List;
import java.util.Map;
import java.util.Set;
import java.util.TreeMap;
import java.util.TreeSet;
import java.util.regex.Matcher;
import java.util.regex.Pattern;

/** The public face is the document's and nothing more; the source keeps to plain rules. */
public final class FaceTest {
    private static final Set<String> FACE = Set.of(
            "int operator(int)", "int need(int,int,int)", "int effect(int,int,int)",
            "int begin(int,int)", "int goal(int,int)", "int cost()", "int length()",
            "int step(int)", "int reached()", "int dead()", "boolean apart(int,int,int,int)",
            "boolean passes(int,int)", "boolean needed(int)", "int returning()",
            "int single(int,int)", "int singleGoal()", "int paired(int,int,int,int)",
            "int pairedGoal()", "int relaxed()");

    private static final List<String> FORBIDDEN = List.of(
            "import", "package", "throw", "throws", "try", "catch", "finally", "synchronized",
            "assert", "instanceof", "null", "float", "double", "String", "Math", "Integer",
            "System", "Arrays", "Object", "enum", "record", "interface", "protected", "var",
            "->", "::", "[][]");

    private static int wrong = 0;

    private static void due(String what, Object got, Object want) {
        if (!got.equals(want)) {
            wrong++;
            System.out.println(what + " is " + got + ", due is " + want);
        }
    }

    public static void main(String[] args) throws IOException {
        members();
        fields();
        source();
        System.out.println(wrong == 0 ? "the face is as due" : wrong + " things are not as due");
        if (wrong != 0) {
            System.exit(1);
        }
    }

    private static void members() {
        Class<OperatorTasks> c = OperatorTasks.class;
        due("class", Modifier.toString(c.getModifiers()), "public final");
        due("superclass", c.getSuperclass(), Object.class);
        due("interfaces", c.getInterfaces().length, 0);
        due("nested classes", c.getDeclaredClasses().length, 0);
        due("constructors", c.getDeclaredConstructors().length, 1);
        Constructor<?> made = c.getDeclaredConstructors()[0];
        due("constructor", made.toString(), "public OperatorTasks(int,int)");
        Set<String> open = new TreeSet<>();
        Set<String> names = new TreeSet<>();
        for (Method m : c.getDeclaredMethods()) {
            if (!Modifier.isPrivate(m.getModifiers())) {
                due(m + " modifiers", Modifier.toString(m.getModifiers()), "public");
                names.add(m.getName());
                open.add(m.toString().replace("public ", "").replace("OperatorTasks.", ""));
            }
        }
        due("methods", open, new TreeSet<>(FACE));
        for (Method m : c.getDeclaredMethods()) {
            if (Modifier.isPrivate(m.getModifiers())) {
                due(m + " bears a public name", names.contains(m.getName()), false);
                due(m + " has few parameters", m.getParameterCount() <= 7, true);
                due(m + " answers an array", m.getReturnType().isArray(), false);
            }
        }
    }

    private static void fields() {
        Set<String> open = new TreeSet<>();
        int own = 0;
        for (Field f : OperatorTasks.class.getDeclaredFields()) {
            int is = f.getModifiers();
            if (!Modifier.isPrivate(is)) {
                due(f + " modifiers", Modifier.toString(is), "public static final");
                open.add(f.getName());
            }
            if (Modifier.isStatic(is)) {
                due(f + " is a constant", Modifier.isFinal(is) && f.getType() == int.class, true);
            } else {
                own++;
                due(f + " is a fixed array", f.getType().isArray() && !Modifier.isFinal(is), false);
            }
        }
        due("constants", open, new TreeSet<>(Set.of("BAD_ARG", "FULL", "NONE")));
        due("at most forty fields", own <= 40, true);
    }

    private static void source() throws IOException {
        String text = Files.readString(Path.of("src/main/java/OperatorTasks.java"));
        String code = text.replaceAll("(?s)/\\*.*?\\*/", "").replaceAll("//[^\n]*", "");
        for (String word : FORBIDDEN) {
            boolean letters = Character.isLetter(word.charAt(0));
            String pattern = letters ? "\\b" + word + "\\b" : Pattern.quote(word);
            due("source has " + word, Pattern.compile(pattern).matcher(code).find(), false);
        }
        Matcher made = Pattern.compile("[^\n]*\\bnew\\b[^\n]*").matcher(code);
        while (made.find()) {
            due("array made in a field: " + made.group().trim(),
                    made.group().startsWith("    private final "), true);
        }
        // a method's body stands between its head and the brace at the head's own depth
        Matcher body = Pattern.compile("(?ms)^    (?:public|private)[^;={]*\\{\n.*?^    \\}").matcher(code);
        Map<String, String> bodies = new TreeMap<>();
        while (body.find()) {
            String head = body.group().lines().findFirst().orElse("").trim();
            due("short: " + head, body.group().lines().count() <= 60, true);
            String name = head.replaceAll("\\(.*", "").replaceAll(".* ", "");
            due("second method " + name, bodies.containsKey(name), false);
            bodies.put(name, body.group().substring(body.group().indexOf('{')));
        }
        due("bodies", bodies.size(), OperatorTasks.class.getDeclaredMethods().length + 1);
        for (String name : bodies.keySet()) {
            due("call in a call's arguments in " + name,
                    callInArguments(bodies.get(name), bodies.keySet()), false);
        }
        callsEnd(bodies);
    }

    private static boolean callInArguments(String body, Set<String> names) {
        Deque<Boolean> open = new ArrayDeque<>();
        for (int i = 0; i < body.length(); i++) {
            if (body.charAt(i) == '(') {
                String before = body.substring(0, i).replaceAll("(?s).*?(\\w*)$", "$1");
                boolean call = names.contains(before);
                if (call && open.contains(true)) {
                    return true;
                }
                open.push(call);
            } else if (body.charAt(i) == ')') {
                open.pop();
            }
        }
        return false;
    }

    /** A method is placed one above the highest that it calls; one that calls itself has no place. */
    private static void callsEnd(Map<String, String> bodies) {
        Map<String, Integer> depth = new TreeMap<>();
        for (int round = 0; round < bodies.size(); round++) {
            for (String name : bodies.keySet()) {
                Set<String> called = new TreeSet<>(bodies.keySet());
                called.removeIf(c -> !bodies.get(name).matches("(?s).*\\b" + c + "\\(.*"));
                if (depth.keySet().containsAll(called)) {
                    depth.put(name, 1 + called.stream().mapToInt(depth::get).max().orElse(0));
                }
            }
        }
        due("methods that come to no end", bodies.size() - depth.size(), 0);
        for (String name : depth.keySet()) {
            due(name + " goes at most six deep", depth.get(name) <= 6, true);
        }
    }
}

import java.io.IOException;
import java.lang.reflect.Constructor;
import java.lang.reflect.Method;
import java.lang.reflect.Modifier;
import java.nio.file.Files;
import java.nio.file.Path;
import java.util.ArrayList;
import java.util.Arrays;
import java.util.List;
import java.util.regex.Matcher;
import java.util.regex.Pattern;

/** README.md's example gives the answers beside it, and its tables have every public call. */
public final class ReadmeTest {
    private static final Pattern EXAMPLE = Pattern.compile("(?s)```java\n(.*?)```");
    private static final Pattern MADE =
            Pattern.compile("OperatorTasks t = new OperatorTasks\\((\\d), (\\d)\\); +// .*");
    private static final Pattern CALLED =
            Pattern.compile("(?:int o = )?t\\.(\\w+)\\(([^)]*)\\); +// (-?\\d+|true|false)\\b.*");

    private static int wrong = 0;

    private static void due(String what, Object got, Object want) {
        if (!got.equals(want)) {
            wrong++;
            System.out.println(what + " is " + got + ", due is " + want);
        }
    }

    public static void main(String[] args) throws IOException, ReflectiveOperationException {
        String text = Files.readString(Path.of("README.md"));
        example(text);
        tables(text);
        due("README.md tells of .ci/run", text.contains("\n.ci/run\n"), true);
        System.out.println(wrong == 0 ? "README.md is as due" : wrong + " things are not as due");
        if (wrong != 0) {
            System.exit(1);
        }
    }

    private static void example(String text) throws ReflectiveOperationException {
        Matcher block = EXAMPLE.matcher(text);
        due("README.md has an example", block.find(), true);
        List<String> lines = block.group(1).lines().toList();
        Matcher made = MADE.matcher(lines.get(0));
        due("the example makes an object", made.matches(), true);
        OperatorTasks t = new OperatorTasks(
                Integer.parseInt(made.group(1)), Integer.parseInt(made.group(2)));
        for (String line : lines.subList(1, lines.size())) {
            Matcher called = CALLED.matcher(line);
            due("a call with an answer: " + line, called.matches(), true);
            if (called.matches()) {
                String got = call(t, called.group(1), called.group(2));
                due("example: " + line, got, called.group(3));
            }
        }
    }

    /** The example has one operator, o, whose number is 0. */
    private static String call(OperatorTasks t, String name, String listed)
            throws ReflectiveOperationException {
        List<Object> given = new ArrayList<>();
        for (String argument : listed.isEmpty() ? new String[0] : listed.split(", ")) {
            given.add(argument.equals("o") ? 0 : Integer.parseInt(argument));
        }
        Class<?>[] types = new Class<?>[given.size()];
        Arrays.fill(types, int.class);
        Method m = OperatorTasks.class.getMethod(name, types);
        return m.invoke(t, given.toArray()).toString();
    }

    private static void tables(String text) {
        for (Constructor<?> c : OperatorTasks.class.getConstructors()) {
            due("row of the constructor", hasRow(text, c.getName(), c.getParameterCount()), true);
        }
        for (Method m : OperatorTasks.class.getDeclaredMethods()) {
            if (Modifier.isPublic(m.getModifiers())) {
                due("row of " + m, hasRow(text, m.getName(), m.getParameterCount()), true);
            }
        }
    }

    private static boolean hasRow(String text, String name, int parameters) {
        String listed = parameters == 0 ? "" : "\\w+(?:, \\w+){" + (parameters - 1) + "}";
        return Pattern.compile("(?m)^\\| `" + name + "\\(" + listed + "\\)` \\|").matcher(text).find();
    }
}

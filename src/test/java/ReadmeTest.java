import java.lang.reflect.Field;
import java.lang.reflect.Method;
import java.lang.reflect.Modifier;
import java.nio.file.Files;
import java.nio.file.Path;
import java.util.ArrayList;
import java.util.List;
import java.util.Set;
import java.util.TreeSet;
import java.util.regex.Matcher;
import java.util.regex.Pattern;
import java.util.stream.Stream;

/** README.md tells every call, constant and test, and its examples answer what they say. */
public final class ReadmeTest {
    private static final Pattern CALL = Pattern.compile("x\\.(\\w+)\\(([^()]*)\\);\\s+// (-?\\d+|[A-Z]+)(?![\\w.]).*");
    private static final String MADE = "GuardPacks x = new GuardPacks();";
    // What the document lets an object be used for.
    private static final int CALLS = 512;
    private static int wrong = 0;
    private static int checked = 0;

    private static void hold(String what, boolean holds) {
        checked++;
        if (!holds) {
            wrong++;
            System.out.println("README.md: " + what);
        }
    }

    public static void main(String[] args) throws Exception {
        List<String> lines = Files.readAllLines(Path.of("README.md"));
        Set<String> called = new TreeSet<>();
        Set<String> answered = new TreeSet<>();
        for (List<String> example : examplesOf(lines)) {
            play(example, called, answered);
        }
        String text = String.join("\n", lines);
        everyCall(text, called);
        everyConstant(text, answered);
        everyTest(text);
        System.out.println(checked + " words of README.md looked at, " + wrong + " do not hold");
        if (wrong != 0) {
            System.exit(1);
        }
    }

    private static List<List<String>> examplesOf(List<String> lines) {
        List<List<String>> examples = new ArrayList<>();
        List<String> open = null;
        for (String line : lines) {
            if (line.equals("```java")) {
                open = new ArrayList<>();
                examples.add(open);
            } else if (line.startsWith("```")) {
                open = null;
            } else if (open != null && !line.isBlank()) {
                open.add(line);
            }
        }
        hold("there is an example", !examples.isEmpty());
        return examples;
    }

    private static void play(List<String> example, Set<String> called, Set<String> answered) throws Exception {
        hold("an example begins with a new object", !example.isEmpty() && example.get(0).equals(MADE));
        hold("an example has no more calls than an object is used for", example.size() - 1 <= CALLS);
        GuardPacks x = new GuardPacks();
        for (int i = 1; i < example.size(); i++) {
            Matcher call = CALL.matcher(example.get(i));
            if (!call.matches()) {
                hold("not a call with its answer: " + example.get(i), false);
                continue;
            }
            called.add(call.group(1));
            answered.add(call.group(3));
            int got = answerOf(x, call.group(1), call.group(2));
            hold(example.get(i) + " <- answered " + got, got == valueOf(call.group(3)));
        }
    }

    private static int answerOf(GuardPacks x, String name, String told) throws Exception {
        String[] words = told.isBlank() ? new String[0] : told.split(",\\s*");
        for (Method method : GuardPacks.class.getDeclaredMethods()) {
            if (Modifier.isPublic(method.getModifiers()) && method.getName().equals(name)
                    && method.getParameterCount() == words.length) {
                Object[] arguments = new Object[words.length];
                for (int i = 0; i < words.length; i++) {
                    boolean flag = method.getParameterTypes()[i] == boolean.class;
                    hold(words[i] + " is a number or true or false", !flag || words[i].matches("true|false"));
                    arguments[i] = flag ? (Object) Boolean.valueOf(words[i]) : (Object) Integer.valueOf(words[i]);
                }
                return (Integer) method.invoke(x, arguments);
            }
        }
        hold("no such call: " + name + "(" + told + ")", false);
        return Integer.MIN_VALUE;
    }

    private static int valueOf(String answer) throws Exception {
        return Character.isLetter(answer.charAt(0))
                ? GuardPacks.class.getField(answer).getInt(null) : Integer.parseInt(answer);
    }

    /** In a row of its table, with as many arguments as it takes, and in an example. */
    private static void everyCall(String text, Set<String> called) {
        for (Method method : GuardPacks.class.getDeclaredMethods()) {
            if (Modifier.isPublic(method.getModifiers())) {
                String name = method.getName();
                int count = method.getParameterCount();
                String arguments = count == 0 ? "" : "\\w+" + "(, \\w+){" + (count - 1) + "}";
                Pattern row = Pattern.compile("^\\| `" + name + "\\(" + arguments + "\\)` \\| \\d+ \\|", Pattern.MULTILINE);
                hold("a table tells what " + name + " is for", row.matcher(text).find());
                hold("an example calls " + name, called.contains(name));
            }
        }
    }

    /** In its table, with its value, and in an example. */
    private static void everyConstant(String text, Set<String> answered) throws Exception {
        for (Field field : GuardPacks.class.getFields()) {
            String row = "\n| `" + field.getName() + "` | " + field.getInt(null) + " | ";
            hold("the table tells what " + field.getName() + " means", text.contains(row));
            hold("an example answers " + field.getName(), answered.contains(field.getName()));
        }
    }

    private static void everyTest(String text) throws Exception {
        try (Stream<Path> files = Files.list(Path.of("src/test/java"))) {
            for (Path file : files.toList()) {
                String name = file.getFileName().toString().replace(".java", "");
                hold("it tells what " + name + " is", text.contains("\n- `" + name + "`: "));
            }
        }
        hold("it tells how the tests are run", text.contains("\n.ci/run\n"));
    }
}

import java.io.IOException;
import java.lang.reflect.InvocationTargetException;
import java.lang.reflect.Method;
import java.lang.reflect.Modifier;
import java.nio.file.Files;
import java.nio.file.Path;
import java.util.HashMap;
import java.util.Map;
import java.util.regex.Matcher;
import java.util.regex.Pattern;

/** The example in README.md answers as it says there, and its table names every call. */
public final class ReadmeTest {
    private static final Path README = Path.of("README.md");
    private static final String BEGIN = "RuleArguments x = new RuleArguments();";
    private static final Pattern BLOCK = Pattern.compile("(?s)```java\n(.*?)```");
    private static final Pattern LINE = Pattern.compile(
            "(?:int (\\w+) = )?x\\.(\\w+)\\(([^)]*)\\); +// (-?\\d+|true|false): .+");

    private static final Map<String, Method> CALLS = new HashMap<>();
    private static final Map<String, Integer> KEPT = new HashMap<>();
    private static int wrong = 0;
    private static int answered = 0;

    public static void main(String[] args) throws IOException, ReflectiveOperationException {
        for (Method method : RuleArguments.class.getDeclaredMethods()) {
            if (Modifier.isPublic(method.getModifiers())) {
                CALLS.put(method.getName(), method);
            }
        }
        String text = Files.readString(README);
        runExample(text);
        for (String name : CALLS.keySet()) {
            boolean named = Pattern.compile("(?m)^\\|.*`" + name + "\\(.*\\|").matcher(text).find();
            demand("the table names " + name, named);
        }
        System.out.println("readme: " + answered + " answers, " + wrong + " wrong");
        if (wrong != 0) {
            System.exit(1);
        }
    }

    private static void demand(String what, boolean kept) {
        if (!kept) {
            wrong++;
            System.out.println("not so: " + what);
        }
    }

    private static void runExample(String text) throws ReflectiveOperationException {
        Matcher block = BLOCK.matcher(text);
        if (!block.find()) {
            demand("there is an example", false);
            return;
        }
        RuleArguments x = new RuleArguments();
        for (String line : block.group(1).split("\n")) {
            if (!line.equals(BEGIN)) {
                runLine(x, line);
            }
        }
        demand("the example has answers", answered > 0);
    }

    private static void runLine(RuleArguments x, String line) throws ReflectiveOperationException {
        Matcher found = LINE.matcher(line);
        if (!found.matches() || !CALLS.containsKey(found.group(2))) {
            demand("a call with its answer: " + line, false);
            return;
        }
        String got = answer(x, CALLS.get(found.group(2)), found.group(3));
        answered++;
        demand(line + " (answered " + got + ")", got.equals(found.group(4)));
        if (found.group(1) != null && got.equals(found.group(4))) {
            KEPT.put(found.group(1), Integer.valueOf(got));
        }
    }

    private static String answer(RuleArguments x, Method call, String given)
            throws ReflectiveOperationException {
        String[] words = given.isEmpty() ? new String[0] : given.split(", ");
        Object[] values = new Object[words.length];
        for (int i = 0; i < words.length; i++) {
            values[i] = value(words[i]);
        }
        try {
            return String.valueOf(call.invoke(x, values));
        } catch (InvocationTargetException e) {
            return "throws." + e.getCause().getClass().getSimpleName();
        }
    }

    private static Object value(String word) {
        if (word.equals("true") || word.equals("false")) {
            return Boolean.valueOf(word);
        }
        return KEPT.containsKey(word) ? KEPT.get(word) : Integer.valueOf(word);
    }
}

import java.io.IOException;
import java.lang.reflect.Constructor;
import java.lang.reflect.Field;
import java.lang.reflect.Method;
import java.lang.reflect.Modifier;
import java.nio.file.Files;
import java.nio.file.Path;
import java.util.ArrayList;
import java.util.Arrays;
import java.util.Collections;
import java.util.List;
import java.util.regex.Matcher;
import java.util.regex.Pattern;

/**
 * The class shows the document's face, and nothing else but private members; its source has the
 * document's headings ahead of the calls that they belong to.
 */
public final class FaceTest {
    private static final String A = "IllegalArgumentException";
    private static final String S = "IllegalStateException";
    private static final String I = "IndexOutOfBoundsException";
    private static final String[] FACE = {
        "int addFact(int) " + A + " " + S,
        "boolean takeBack(int) " + A,
        "int addRule(int,int,int,int,int) " + A + " " + S,
        "int setPriority(int,int) " + I + " " + A,
        "int setException(int,int) " + I + " " + A,
        "boolean turn(int,boolean) " + I,
        "int facts()",
        "int rules()",
        "int arguments()",
        "int conclusion(int) " + S + " " + I,
        "int madeBy(int) " + S + " " + I,
        "int part(int,int) " + S + " " + I,
        "int depth(int) " + S + " " + I,
        "boolean attacks(int,int) " + S + " " + I,
        "int label(int) " + S + " " + I,
        "int round(int) " + S + " " + I,
        "int holds(int) " + A + " " + S,
        "int reasonFor(int) " + A + " " + S,
        "int reasonAgainst(int) " + S + " " + I,
        "int preferred() " + S,
        "int preferredByAllSets() " + S,
        "boolean isInSet(int,int) " + S + " " + I,
        "int setsFor(int) " + A + " " + S,
    };

    private static final Path SOURCE = Path.of("src/main/java/RuleArguments.java");
    private static final String[] HEADINGS_AND_CALLS = {
        "RuleArguments",
        "---- facts and rules", "addFact", "takeBack", "addRule", "setPriority", "setException",
        "turn", "facts", "rules",
        "---- arguments", "arguments", "conclusion", "madeBy", "part", "depth", "attacks",
        "---- the grounded labelling", "label", "round", "holds", "reasonFor", "reasonAgainst",
        "---- preferred sets", "preferred", "preferredByAllSets", "isInSet", "setsFor",
    };

    private static int wrong = 0;

    public static void main(String[] args) throws IOException {
        List<String> due = new ArrayList<>(Arrays.asList(FACE));
        due.add("constructor RuleArguments()");
        due.add("class public final");
        List<String> got = faceOf(RuleArguments.class);
        Collections.sort(due);
        Collections.sort(got);
        demandSame("face", due, got);
        demandSame("source", Arrays.asList(HEADINGS_AND_CALLS), headingsAndCalls());
        if (wrong != 0) {
            System.exit(1);
        }
        System.out.println("face: as due");
    }

    private static void demandSame(String what, List<String> due, List<String> got) {
        if (!due.equals(got)) {
            wrong++;
            System.out.println(what + ": " + got);
            System.out.println("due: " + due);
        }
    }

    /** What the source has, up to the last public call. */
    private static List<String> headingsAndCalls() throws IOException {
        Pattern shown = Pattern.compile("^ {4}(?:// (---- .*)|public (?:\\w+ )?(\\w+)\\(.*)$");
        List<String> found = new ArrayList<>();
        int end = 0;
        for (String line : Files.readAllLines(SOURCE)) {
            Matcher matcher = shown.matcher(line);
            if (matcher.matches()) {
                boolean heading = matcher.group(1) != null;
                found.add(heading ? matcher.group(1) : matcher.group(2));
                end = heading ? end : found.size();
            }
        }
        return found.subList(0, end);
    }

    private static List<String> faceOf(Class<?> type) {
        List<String> face = new ArrayList<>();
        face.add("class " + Modifier.toString(type.getModifiers()));
        for (Constructor<?> made : type.getDeclaredConstructors()) {
            face.add("constructor " + type.getName() + typed(made.getParameterTypes()));
        }
        for (Method method : type.getDeclaredMethods()) {
            if (!Modifier.isPrivate(method.getModifiers())) {
                face.add(told(method));
            }
        }
        for (Field field : type.getDeclaredFields()) {
            if (!Modifier.isPrivate(field.getModifiers())) {
                face.add("field " + field.getName());
            }
        }
        return face;
    }

    private static String told(Method method) {
        StringBuilder text = new StringBuilder();
        text.append(method.getReturnType().getSimpleName()).append(' ').append(method.getName());
        text.append(typed(method.getParameterTypes()));
        for (Class<?> thrown : method.getExceptionTypes()) {
            text.append(' ').append(thrown.getSimpleName());
        }
        return text.toString();
    }

    private static String typed(Class<?>[] types) {
        List<String> names = new ArrayList<>();
        for (Class<?> type : types) {
            names.add(type.getSimpleName());
        }
        return "(" + String.join(",", names) + ")";
    }
}

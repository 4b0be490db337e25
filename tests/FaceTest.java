import java.lang.reflect.Constructor;
import java.lang.reflect.Field;
import java.lang.reflect.Method;
import java.lang.reflect.Modifier;
import java.util.ArrayList;
import java.util.Arrays;
import java.util.Collections;
import java.util.List;

/** The class shows the document's face, and nothing else but private members. */
public final class FaceTest {
    private static final String A = "IllegalArgumentException";
    private static final String S = "IllegalStateException";
    private static final String I = "IndexOutOfBoundsException";
    private static final String[] FACE = {
        "int addFact(int) " + A + " " + S,
        "boolean takeBack(int) " + A,
        "int addRule(int,int,int,int,int) " + A + " " + S,
        "int setPriority(int,int) " + I + " " + A,
        "int setException(int,int) " + I + " " + A,
        "boolean turn(int,boolean) " + I,
        "int facts()",
        "int rules()",
        "int arguments()",
        "int conclusion(int) " + S + " " + I,
        "int madeBy(int) " + S + " " + I,
        "int part(int,int) " + S + " " + I,
        "int depth(int) " + S + " " + I,
        "boolean attacks(int,int) " + S + " " + I,
        "int label(int) " + S + " " + I,
        "int round(int) " + S + " " + I,
        "int holds(int) " + A + " " + S,
        "int reasonFor(int) " + A + " " + S,
        "int reasonAgainst(int) " + S + " " + I,
        "int preferred() " + S,
        "int preferredByAllSets() " + S,
        "boolean isInSet(int,int) " + S + " " + I,
        "int setsFor(int) " + A + " " + S,
    };

    public static void main(String[] args) {
        List<String> due = new ArrayList<>(Arrays.asList(FACE));
        due.add("constructor RuleArguments()");
        due.add("class public final");
        List<String> got = faceOf(RuleArguments.class);
        Collections.sort(due);
        Collections.sort(got);
        if (!due.equals(got)) {
            System.out.println("face: " + got);
            System.out.println("due:  " + due);
            System.exit(1);
        }
        System.out.println("face: as due");
    }

    private static List<String> faceOf(Class<?> type) {
        List<String> face = new ArrayList<>();
        face.add("class " + Modifier.toString(type.getModifiers()));
        for (Constructor<?> made : type.getDeclaredConstructors()) {
            face.add("constructor " + type.getName() + typed(made.getParameterTypes()));
        }
        for (Method method : type.getDeclaredMethods()) {
            if (!Modifier.isPrivate(method.getModifiers())) {
                face.add(told(method));
            }
        }
        for (Field field : type.getDeclaredFields()) {
            if (!Modifier.isPrivate(field.getModifiers())) {
                face.add("field " + field.getName());
            }
        }
        return face;
    }

    private static String told(Method method) {
        StringBuilder text = new StringBuilder();
        text.append(method.getReturnType().getSimpleName()).append(' ').append(method.getName());
        text.append(typed(method.getParameterTypes()));
        for (Class<?> thrown : method.getExceptionTypes()) {
            text.append(' ').append(thrown.getSimpleName());
        }
        return text.toString();
    }

    private static String typed(Class<?>[] types) {
        List<String> names = new ArrayList<>();
        for (Class<?> type : types) {
            names.add(type.getSimpleName());
        }
        return "(" + String.join(",", names) + ")";
    }
}

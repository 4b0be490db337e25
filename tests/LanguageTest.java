import java.io.IOException;
import java.lang.reflect.Field;
import java.lang.reflect.Method;
import java.lang.reflect.Modifier;
import java.nio.file.Files;
import java.nio.file.Path;
import java.util.HashSet;
import java.util.List;
import java.util.Set;
import java.util.regex.Matcher;
import java.util.regex.Pattern;

/** The rules of LANGUAGE.md that can be seen from the text of the class, or from its members. */
public final class LanguageTest {
    private static final Path SOURCE = Path.of("src/main/java/RuleArguments.java");
    private static final String[] FORBIDDEN = {
        "->", "::", "\\bpackage\\b", "\\bfinally\\b", "\\bsynchronized\\b", "\\bassert\\b",
        "\\bcatch\\b", "\\bstatic\\s*\\{", "\\bSystem\\b", "\\bequals\\b", "\\bhashCode\\b",
        "\\bjava\\.(?!util\\.ArrayList;)", "\\bdouble\\b", "\\bfloat\\b", "\\bwhile\\s*\\(true\\)",
        "\\bMath\\.(?!max\\b|min\\b)", "\\bInteger\\b", "\\bLong\\b", "\\s/\\s(?!2;)", "\\s%\\s",
        "\\bnew (?!RuleArguments|FactBook|RuleBook|Rule|ArgumentList|AttackGraph|Labelling"
            + "|SetSearch|SetList|UnionTable|ArrayList<>|int\\[|boolean\\["
            + "|IllegalArgumentException|IllegalStateException|IndexOutOfBoundsException)",
    };

    private static int wrong = 0;

    public static void main(String[] args) throws IOException {
        String text = Files.readString(SOURCE);
        String code = text.replaceAll("(?s)/\\*.*?\\*/", "").replaceAll("//[^\n]*", "");
        code = code.replaceAll("\"[^\"\n]*\"", "\"\"");
        for (String forbidden : FORBIDDEN) {
            Matcher found = Pattern.compile(forbidden).matcher(code);
            demand("no " + forbidden, !found.find());
        }
        demand("ASCII alone", text.chars().allMatch(c -> c == '\n' || (c >= 32 && c < 127)));
        demandShortMethods(Files.readAllLines(SOURCE));
        Class<?>[] inside = RuleArguments.class.getDeclaredClasses();
        demand("at most twelve classes", inside.length + 1 <= 12);
        Set<String> face = new HashSet<>();
        for (Method method : RuleArguments.class.getDeclaredMethods()) {
            if (Modifier.isPublic(method.getModifiers())) {
                face.add(method.getName());
            }
        }
        demandMembers(RuleArguments.class, face);
        for (Class<?> type : inside) {
            demand(type + " static", Modifier.isStatic(type.getModifiers()));
            demand(type + " not public", !Modifier.isPublic(type.getModifiers()));
            demandMembers(type, face);
        }
        System.out.println(wrong == 0 ? "language: as due" : "language: " + wrong + " wrong");
        if (wrong != 0) {
            System.exit(1);
        }
    }

    private static void demand(String what, boolean kept) {
        if (!kept) {
            wrong++;
            System.out.println("not kept: " + what);
        }
    }

    private static void demandShortMethods(List<String> lines) {
        int start = -1;
        for (int i = 0; i < lines.size(); i++) {
            String line = lines.get(i);
            demand("line " + (i + 1) + " is short", line.length() <= 100);
            if (line.matches("( {4}| {8})[a-z][^=;]*\\(.*") && !line.matches(".*[;}]")) {
                start = i;
            }
            if (line.matches(" {4}\\}| {8}\\}") && start >= 0) {
                demand("method at line " + (start + 1) + " is short", i - start < 60);
                start = -1;
            }
        }
    }

    private static void demandMembers(Class<?> type, Set<String> face) {
        int fields = 0;
        for (Field field : type.getDeclaredFields()) {
            boolean constant = Modifier.isStatic(field.getModifiers());
            demand(field + " private", Modifier.isPrivate(field.getModifiers()));
            demand(field + " final", !constant || Modifier.isFinal(field.getModifiers()));
            fields += constant ? 0 : 1;
        }
        demand(type + " has few fields", fields <= 20);
        for (Method method : type.getDeclaredMethods()) {
            boolean open = Modifier.isPublic(method.getModifiers());
            demand(method + " has a name of its own", open || !face.contains(method.getName()));
            demand(method + " has few parameters", method.getParameterCount() <= 7);
        }
    }
}

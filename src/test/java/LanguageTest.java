import java.io.IOException;
import java.lang.reflect.Field;
import java.lang.reflect.Member;
import java.lang.reflect.Method;
import java.lang.reflect.Modifier;
import java.nio.file.Files;
import java.nio.file.Path;
import java.util.ArrayList;
import java.util.List;
import java.util.Set;
import java.util.TreeSet;
import java.util.regex.Matcher;
import java.util.regex.Pattern;

/** Those rules of LANGUAGE.md that can be seen in the text of the class, or by reflection. Run from the project's directory. */
public final class LanguageTest extends Check {
    private static final Path SOURCE = Path.of("src/main/java/PlaneFills.java");
    private static final int MOST_CLASSES = 12;
    private static final int MOST_FIELDS = 20;
    private static final int MOST_PARAMETERS = 7;
    private static final int MOST_LINES = 60;

    /** All that the pattern's first group finds. */
    private static Set<String> found(String code, String pattern) {
        Set<String> all = new TreeSet<>();
        Matcher matcher = Pattern.compile(pattern).matcher(code);
        while (matcher.find()) {
            all.add(matcher.group(1));
        }
        return all;
    }

    /** What the pattern finds beyond what is fine. */
    private static void noneBut(String what, Set<String> fine, String code, String pattern) {
        Set<String> others = found(code, pattern);
        others.removeAll(fine);
        due(what, "[]", () -> others);
    }

    private static List<Class<?>> classes() {
        List<Class<?>> all = new ArrayList<>(List.of(PlaneFills.class.getDeclaredClasses()));
        all.add(PlaneFills.class);
        return all;
    }

    private static boolean hidden(Member member) {
        return Modifier.isPrivate(member.getModifiers());
    }

    private static void text(String code) {
        says("Rules 2 and 4: the library, no lambda, no method reference");
        noneBut("imports", Set.of("java.util.ArrayList", "java.util.Arrays", "java.util.List"), code, "import\\s+([^;]+);");
        noneBut("of Math", Set.of("max", "min", "abs", "floorDiv", "floorMod"), code, "\\bMath\\.(\\w+)");
        noneBut("of Integer", Set.of("bitCount", "compare", "max", "min"), code, "\\bInteger\\.(\\w+)");
        noneBut("of Arrays", Set.of("fill", "copyOf", "copyOfRange"), code, "\\bArrays\\.(\\w+)(?!\\w*;)");
        noneBut("of System", Set.of("arraycopy"), code, "\\bSystem\\.(\\w+)");
        noneBut("arrows and references", Set.of(), code, "(->|::)");

        says("Rules 3, 5, 6 and 13: types, static state, exceptions, clocks");
        noneBut("words", Set.of(), code, "\\b(package|double|float|try|catch|finally|synchronized|assert|volatile|transient|native|"
            + "goto|strictfp|super|extends|implements|Thread|Runtime|Object|equals|hashCode|toString|\\w+Exact)\\b");
        noneBut("a static block", Set.of(), code, "\\b(static\\s*\\{)");
        noneBut("thrown", Set.of("new IllegalArgumentException(\"\");", "new IndexOutOfBoundsException(\"\");"),
            code, "\\bthrow\\s+([^;]*;)");
    }

    private static void members() {
        List<Class<?>> classes = classes();
        says("Rule 11: parameters, classes and fields");
        due("classes", true, () -> classes.size() <= MOST_CLASSES);
        for (Class<?> each : classes) {
            int fields = 0;
            for (Field field : each.getDeclaredFields()) {
                fields += Modifier.isStatic(field.getModifiers()) ? 0 : 1;
            }
            int count = fields;
            due("fields of " + each.getName(), true, () -> count <= MOST_FIELDS);
            for (Method method : each.getDeclaredMethods()) {
                due("parameters of " + method.getName(), true, () -> method.getParameterCount() <= MOST_PARAMETERS);
            }
        }
        says("Rules 1 and 5: classes inside are static, all that is not of the face private, static fields final");
        for (Class<?> each : classes) {
            for (Field field : each.getDeclaredFields()) {
                boolean once = !Modifier.isStatic(field.getModifiers()) || Modifier.isFinal(field.getModifiers());
                due("field " + field, true, () -> once);
            }
            if (each != PlaneFills.class) {
                due("static " + each.getName(), true, () -> Modifier.isStatic(each.getModifiers()));
                for (Method method : each.getDeclaredMethods()) {
                    due("private " + method, true, () -> hidden(method));
                }
            }
        }
    }

    private static void lengths(List<String> lines) {
        says("Rule 11: Methods stay short (some sixty lines)");
        Pattern head = Pattern.compile("( +)(public|private) (?!.*\\bclass\\b).*\\(.*");
        for (int k = 0; k < lines.size(); k++) {
            Matcher matcher = head.matcher(lines.get(k));
            if (matcher.matches() && !lines.get(k).endsWith(";")) {
                int end = k;
                while (end < lines.size() && !lines.get(end).equals(matcher.group(1) + "}")) {
                    end++;
                }
                int length = end - k + 1;
                due("lines of " + lines.get(k).trim(), true, () -> length <= MOST_LINES);
            }
        }
    }

    public static void main(String[] args) throws IOException {
        String source = Files.readString(SOURCE);
        String code = source.replaceAll("(?s)/\\*.*?\\*/", "").replaceAll("//[^\n]*", "").replaceAll("\"[^\"\n]*\"", "\"\"");
        text(code);
        members();
        lengths(source.lines().toList());
        end();
    }
}

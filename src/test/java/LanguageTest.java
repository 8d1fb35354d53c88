import java.io.IOException;
import java.lang.reflect.Constructor;
import java.lang.reflect.Field;
import java.lang.reflect.Method;
import java.lang.reflect.Modifier;
import java.nio.file.Files;
import java.nio.file.Path;
import java.util.ArrayList;
import java.util.List;
import java.util.Set;
import java.util.TreeSet;
import java.util.regex.Matcher;
import java.util.regex.Pattern;

/** The public face of the document, and those rules of LANGUAGE.md that can be seen without reading for sense. */
public final class LanguageTest {
    private static final Path SOURCE = Path.of("src/main/java/RecurrenceEngine.java");

    private static final List<String> FACE = List.of(
        "int define(int, int, int, int)", "int add(int, int, int)", "int scale(int, int)", "int advance(int)",
        "int prepend(int, int)", "int accumulate(int)", "int difference(int)", "int copy(int, int)",
        "int term(int, int)", "int order(int)", "boolean equal(int, int)", "int sum(int, int, int)",
        "int find(int, int)", "BAD_SEQUENCE", "BAD_ORDER", "FULL", "BAD_INDEX", "RecurrenceEngine()");

    private static final String FORBIDDEN_WORDS =
        "package|import|throws?|try|catch|finally|synchronized|assert|instanceof|null|float|double|protected|static\\s*\\{"
        + "|String|Math|Integer|Long|System|Arrays|Object|enum|record|interface|var|native|this";

    private static int wrong = 0;

    public static void main(String[] args) throws IOException {
        checkFace();
        checkMembers();
        checkSource(Files.readString(SOURCE));
        if (wrong != 0) {
            System.exit(1);
        }
    }

    private static void fault(String text) {
        wrong++;
        System.out.println(text);
    }

    private static String signature(Method m) {
        List<String> types = new ArrayList<>();
        for (Class<?> type : m.getParameterTypes()) {
            types.add(type.getName());
        }
        return m.getReturnType().getName() + " " + m.getName() + "(" + String.join(", ", types) + ")";
    }

    private static void checkFace() {
        Class<?> engine = RecurrenceEngine.class;
        Set<String> seen = new TreeSet<>();
        for (Method m : engine.getDeclaredMethods()) {
            if (!Modifier.isPrivate(m.getModifiers())) {
                seen.add(signature(m));
                if (m.getModifiers() != Modifier.PUBLIC) {
                    fault("not plainly public: " + m);
                }
            }
        }
        for (Field f : engine.getDeclaredFields()) {
            if (!Modifier.isPrivate(f.getModifiers())) {
                seen.add(f.getName());
                if (f.getModifiers() != (Modifier.PUBLIC | Modifier.STATIC | Modifier.FINAL) || f.getType() != int.class) {
                    fault("not a public constant: " + f);
                }
            }
        }
        for (Constructor<?> c : engine.getDeclaredConstructors()) {
            seen.add(c.getParameterCount() == 0 && c.getModifiers() == Modifier.PUBLIC ? "RecurrenceEngine()" : c.toString());
        }
        if (!seen.equals(new TreeSet<>(FACE))) {
            fault("rule 1: the face is " + seen + ", due is " + new TreeSet<>(FACE));
        }
        if (engine.getModifiers() != (Modifier.PUBLIC | Modifier.FINAL) || engine.getSuperclass() != Object.class) {
            fault("rule 1: the class is not plainly public and final");
        }
        if (engine.getDeclaredClasses().length != 0 || engine.getInterfaces().length != 0) {
            fault("rule 1: there is another type");
        }
    }

    private static boolean isNumberType(Class<?> type) {
        Class<?> plain = type.isArray() ? type.getComponentType() : type;
        return plain.isPrimitive() && plain != float.class && plain != double.class;
    }

    private static void checkMembers() {
        Set<String> publicNames = new TreeSet<>();
        for (Method m : RecurrenceEngine.class.getMethods()) {
            publicNames.add(m.getName());
        }
        for (Method m : RecurrenceEngine.class.getDeclaredMethods()) {
            if (Modifier.isPrivate(m.getModifiers()) && publicNames.contains(m.getName())) {
                fault("rule 1: a private method with a public name: " + m);
            }
            if (m.getReturnType().isArray() || !isNumberType(m.getReturnType())) {
                fault("rules 2 and 4: answers " + m.getReturnType() + ": " + m);
            }
            for (Class<?> type : m.getParameterTypes()) {
                if (!isNumberType(type)) {
                    fault("rule 2: takes " + type + ": " + m);
                }
            }
            if (m.getParameterCount() > 7) {
                fault("rule 10: more than seven parameters: " + m);
            }
        }
        for (Field f : RecurrenceEngine.class.getDeclaredFields()) {
            if (!isNumberType(f.getType())) {
                fault("rule 2: " + f);
            }
            if (Modifier.isStatic(f.getModifiers()) && f.getType() != int.class && f.getType() != long.class) {
                fault("rule 5: " + f);
            }
        }
    }

    private static void checkSource(String text) {
        String code = text.replaceAll("(?s)/\\*.*?\\*/", "").replaceAll("//[^\n]*", "");
        Matcher forbidden = Pattern.compile("\\b(" + FORBIDDEN_WORDS + ")\\b|->|::|\"|@").matcher(code);
        while (forbidden.find()) {
            fault("rules 2, 3 and 6: '" + forbidden.group() + "' stands in the program");
        }
        for (String line : code.split("\n")) {
            if (line.contains("new ") && !line.matches("    private final int\\[\\] \\w+ = new int\\[[A-Z_]+\\];")) {
                fault("rule 4: " + line.trim());
            }
            if (line.contains("while")) {
                fault("rule 8, read it anew: " + line.trim());
            }
        }
        checkNestedCalls(code);
    }

    /** Between the brackets of a call no second name stands ahead of an opening bracket. */
    private static void checkNestedCalls(String code) {
        Matcher call = Pattern.compile("\\b(?!(?:if|for|while|switch|return)\\b)\\w+\\(").matcher(code);
        while (call.find()) {
            int depth = 1;
            int at = call.end();
            while (depth > 0) {
                char c = code.charAt(at);
                depth += c == '(' ? 1 : c == ')' ? -1 : 0;
                if (c == '(' && Character.isJavaIdentifierPart(code.charAt(at - 1))) {
                    fault("rule 10: a call in the arguments of " + code.substring(call.start(), at + 1));
                }
                at++;
            }
        }
    }
}

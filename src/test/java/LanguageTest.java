import java.io.IOException;
import java.lang.reflect.Constructor;
import java.lang.reflect.Field;
import java.lang.reflect.Method;
import java.lang.reflect.Modifier;
import java.nio.file.Files;
import java.nio.file.Path;
import java.util.ArrayList;
import java.util.List;
import java.util.Map;
import java.util.Set;
import java.util.TreeMap;
import java.util.TreeSet;
import java.util.regex.Matcher;
import java.util.regex.Pattern;

/** The public face of the document, and those rules of LANGUAGE.md that can be seen without reading for sense. */
public final class LanguageTest {
    private static final Path SOURCE = Path.of("src/main/java/RecurrenceEngine.java");

    private static final List<String> FACE = List.of(
        "int define(int, int, int, int)", "int add(int, int, int)", "int scale(int, int)", "int advance(int)",
        "int prepend(int, int)", "int accumulate(int)", "int difference(int)", "int copy(int, int)",
        "int term(int, int)", "int order(int)", "boolean equal(int, int)", "int sum(int, int, int)",
        "int find(int, int)", "BAD_SEQUENCE", "BAD_ORDER", "FULL", "BAD_INDEX", "RecurrenceEngine()");

    private static final String FORBIDDEN_WORDS =
        "package|import|throws?|try|catch|finally|synchronized|assert|instanceof|null|float|double|protected|static\\s*\\{"
        + "|String|Math|Integer|Long|System|Arrays|Object|enum|record|interface|var|native|this";

    private static int wrong = 0;

    public static void main(String[] args) throws IOException {
        checkFace();
        checkMembers();
        checkSource(Files.readString(SOURCE));
        if (wrong != 0) {
            System.exit(1);
        }
    }

    private static void fault(String text) {
        wrong++;
        System.out.println(text);
    }

    private static String signature(Method m) {
        List<String> types = new ArrayList<>();
        for (Class<?> type : m.getParameterTypes()) {
            types.add(type.getName());
        }
        return m.getReturnType().getName() + " " + m.getName() + "(" + String.join(", ", types) + ")";
    }

    private static void checkFace() {
        Class<?> engine = RecurrenceEngine.class;
        Set<String> seen = new TreeSet<>();
        for (Method m : engine.getDeclaredMethods()) {
            if (!Modifier.isPrivate(m.getModifiers())) {
                seen.add(signature(m));
                if (m.getModifiers() != Modifier.PUBLIC) {
                    fault("not plainly public: " + m);
                }
            }
        }
        for (Field f : engine.getDeclaredFields()) {
            if (!Modifier.isPrivate(f.getModifiers())) {
                seen.add(f.getName());
                if (f.getModifiers() != (Modifier.PUBLIC | Modifier.STATIC | Modifier.FINAL) || f.getType() != int.class) {
                    fault("not a public constant: " + f);
                }
            }
        }
        for (Constructor<?> c : engine.getDeclaredConstructors()) {
            seen.add(c.getParameterCount() == 0 && c.getModifiers() == Modifier.PUBLIC ? "RecurrenceEngine()" : c.toString());
        }
        if (!seen.equals(new TreeSet<>(FACE))) {
            fault("rule 1: the face is " + seen + ", due is " + new TreeSet<>(FACE));
        }
        if (engine.getModifiers() != (Modifier.PUBLIC | Modifier.FINAL) || engine.getSuperclass() != Object.class) {
            fault("rule 1: the class is not plainly public and final");
        }
        if (engine.getDeclaredClasses().length != 0 || engine.getInterfaces().length != 0) {
            fault("rule 1: there is another type");
        }
    }

    private static boolean isNumberType(Class<?> type) {
        Class<?> plain = type.isArray() ? type.getComponentType() : type;
        return plain.isPrimitive() && plain != float.class && plain != double.class;
    }

    private static void checkMembers() {
        Set<String> publicNames = new TreeSet<>();
        for (Method m : RecurrenceEngine.class.getMethods()) {
            publicNames.add(m.getName());
        }
        for (Method m : RecurrenceEngine.class.getDeclaredMethods()) {
            if (Modifier.isPrivate(m.getModifiers()) && publicNames.contains(m.getName())) {
                fault("rule 1: a private method with a public name: " + m);
            }
            if (m.getReturnType().isArray() || !isNumberType(m.getReturnType())) {
                fault("rules 2 and 4: answers " + m.getReturnType() + ": " + m);
            }
            for (Class<?> type : m.getParameterTypes()) {
                if (!isNumberType(type)) {
                    fault("rule 2: takes " + type + ": " + m);
                }
            }
            if (m.getParameterCount() > 7) {
                fault("rule 10: more than seven parameters: " + m);
            }
        }
        int fields = 0;
        for (Field f : RecurrenceEngine.class.getDeclaredFields()) {
            if (!isNumberType(f.getType())) {
                fault("rule 2: " + f);
            }
            fields += Modifier.isStatic(f.getModifiers()) ? 0 : 1;
            if (Modifier.isStatic(f.getModifiers()) && f.getType() != int.class && f.getType() != long.class) {
                fault("rule 5: " + f);
            }
            if (Modifier.isStatic(f.getModifiers()) && !Modifier.isFinal(f.getModifiers())) {
                fault("rule 5: not a constant: " + f);
            }
        }
        if (fields > 40) {
            fault("rule 10: " + fields + " fields");
        }
    }

    private static void checkSource(String text) {
        String code = text.replaceAll("(?s)/\\*.*?\\*/", "").replaceAll("//[^\n]*", "");
        Matcher forbidden = Pattern.compile("\\b(" + FORBIDDEN_WORDS + ")\\b|->|::|\"|@").matcher(code);
        while (forbidden.find()) {
            fault("rules 2, 3 and 6: '" + forbidden.group() + "' stands in the program");
        }
        for (String line : code.split("\n")) {
            if (line.contains("new ") && !line.matches("    private final int\\[\\] \\w+ = new int\\[[A-Z_]+\\];")) {
                fault("rule 4: " + line.trim());
            }
            if (line.contains("while")) {
                fault("rule 8, read it anew: " + line.trim());
            }
        }
        dueNowhere("rule 2: a fraction", "\\d\\.|\\.\\d|\\b\\d+[fFdDeE]", code);
        dueNowhere("rule 3: a method of Object", "\\b(equals|hashCode|toString|getClass|clone|wait|notify|notifyAll|finalize)\\b", code);
        dueNowhere("rule 4: an array made of its values", "=\\s*\\{", code);
        dueNowhere("rule 5: a static field that is no constant of numbers", "\\bstatic final \\w+ \\w+( =[^;]*\\(|;)", code);
        dueNowhere("rule 7: a divisor that is no constant", "[/%]=?(?!=)(?! *MODULUS\\b)", code);
        dueNowhere("rule 11, read it anew: a name with a dot", "\\w\\.\\w", code);
        checkNestedCalls(code);
        checkMethods(code);
    }

    private static void dueNowhere(String what, String shape, String code) {
        Matcher found = Pattern.compile("[^\n]*(" + shape + ")[^\n]*").matcher(code);
        while (found.find()) {
            fault(what + ": " + found.group().trim());
        }
    }

    /** The methods' bodies by their names; a method begins and ends at the indent of a member. */
    private static Map<String, String> bodies(String code) {
        Map<String, String> bodies = new TreeMap<>();
        Matcher method = Pattern.compile("(?ms)^    (?:public|private)[^;=\n]* (\\w+)\\([^)]*\\) \\{\n(.*?)^    \\}").matcher(code);
        while (method.find()) {
            if (bodies.put(method.group(1), method.group(2)) != null) {
                fault("two methods are named " + method.group(1) + ", which this test can't tell apart");
            }
        }
        return bodies;
    }

    private static void checkMethods(String code) {
        Map<String, String> bodies = bodies(code);
        if (bodies.size() != RecurrenceEngine.class.getDeclaredMethods().length + 1) {
            fault("this test sees the methods " + bodies.keySet() + " alone");
        }
        for (Map.Entry<String, String> method : bodies.entrySet()) {
            int lines = method.getValue().split("\n").length + 2;
            if (lines > 60) {
                fault("rule 10: " + method.getKey() + " has " + lines + " lines");
            }
            int depth = depth(method.getKey(), bodies, 0);
            if (depth > 6) {
                fault("rules 8 and 10: calls go more than six deep from " + method.getKey());
            }
            checkLoops(method.getKey(), method.getValue());
        }
    }

    /** How deep the calls go from a method, itself counted in; a recursion ends just above what is allowed. */
    private static int depth(String name, Map<String, String> bodies, int above) {
        if (above > 6) {
            return 1;
        }
        int deepest = 0;
        Matcher call = Pattern.compile("\\b(\\w+)\\(").matcher(bodies.get(name));
        while (call.find()) {
            if (bodies.containsKey(call.group(1))) {
                deepest = Math.max(deepest, depth(call.group(1), bodies, above + 1));
            }
        }
        return deepest + 1;
    }

    /** Every loop counts up to a bound, and nothing else in its method sets the counter. */
    private static void checkLoops(String name, String body) {
        Pattern counted = Pattern.compile("\\(int (\\w+) = [^;]+; [^;]*\\b\\1 <=? [^;]+; \\1\\+\\+\\)");
        Matcher loop = Pattern.compile("\\bfor (\\([^\n]*\\)) \\{").matcher(body);
        int loops = 0;
        while (loop.find()) {
            loops++;
            Matcher header = counted.matcher(loop.group(1));
            if (!header.matches()) {
                fault("rule 8: " + name + " has the loop " + loop.group(1));
            } else if (Pattern.compile("(?<!int )\\b" + header.group(1) + " [-+*/%&|^]?= ").matcher(body).find()) {
                fault("rule 8: " + name + " sets the counter " + header.group(1));
            }
        }
        if (loops != body.split("\\bfor\\b", -1).length - 1) {
            fault("rule 8: " + name + " has a loop that this test can't read");
        }
    }

    /** Between the brackets of a call no second name stands ahead of an opening bracket. */
    private static void checkNestedCalls(String code) {
        Matcher call = Pattern.compile("\\b(?!(?:if|for|while|switch|return)\\b)\\w+\\(").matcher(code);
        while (call.find()) {
            int depth = 1;
            int at = call.end();
            while (depth > 0) {
                char c = code.charAt(at);
                depth += c == '(' ? 1 : c == ')' ? -1 : 0;
                if (c == '(' && Character.isJavaIdentifierPart(code.charAt(at - 1))) {
                    fault("rule 10: a call in the arguments of " + code.substring(call.start(), at + 1));
                }
                at++;
            }
        }
    }
}

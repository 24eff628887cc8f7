import java.io.IOException;
import java.lang.reflect.Constructor;
import java.lang.reflect.Field;
import java.lang.reflect.Method;
import java.lang.reflect.Modifier;
import java.nio.file.Files;
import java.nio.file.Path;
import java.util.HashSet;
import java.util.Map;
import java.util.Set;
import java.util.TreeMap;
import java.util.TreeSet;
import java.util.regex.Matcher;
import java.util.regex.Pattern;

/**
 * The public face of the document, and the rules of LANGUAGE.md that the class
 * and its text can tell. Where a rule is hard to tell from a text, a narrower
 * one that the class keeps is looked at instead. SentencesTest has what only
 * calls can tell (rules 7 and 11).
 */
public final class LanguageTest {
    private static final Path SOURCE = Path.of("src/main/java/PointSpaces.java");
    private static final Set<String> NUMBER_TYPES = Set.of("int", "long", "short", "byte", "char", "boolean");
    private static final Set<String> WORDS = Set.of(
            "public", "private", "static", "final", "class", "new", "return", "true", "false",
            "if", "else", "for", "switch", "case", "default", "break", "continue");
    private static final Set<String> NOT_CALLS = Set.of("if", "for", "while", "switch", "return");
    private static final int LONGEST_METHOD = 60;
    private static final int DEEPEST_CALL = 6;
    private static final int MOST_FIELDS = 40;

    private static int wrong = 0;

    public static void main(String[] args) throws IOException {
        String text = withoutComments(Files.readString(SOURCE));
        Map<String, String> bodies = bodies(text);
        checkClass();
        checkConstructor();
        checkMethods();
        checkFields();
        checkOneClass(text);
        checkWords(text);
        checkArrays(text);
        checkConstants(text);
        checkMethodsOfText(bodies);
        checkLoops(bodies);
        checkCalls(bodies);
        checkDepth(bodies);
        System.out.println(wrong == 0 ? "face and language are kept" : wrong + " rules are not kept");
        if (wrong != 0) {
            System.exit(1);
        }
    }

    private static void require(boolean kept, String rule) {
        if (!kept) {
            wrong++;
            System.out.println("not kept: " + rule);
        }
    }

    // The face, and rule 1, as the compiled class tells them.

    private static Map<String, Integer> face() {
        Map<String, Integer> face = new TreeMap<>();
        for (String name : "plain loose turn opens dense kind needed".split(" ")) {
            face.put(name, 1);
        }
        for (String name : "open copy join meet isOpen openAt inner closure around piece maps same chains".split(" ")) {
            face.put(name, 2);
        }
        for (String name : "tie pull push continuous".split(" ")) {
            face.put(name, 3);
        }
        return face;
    }

    private static void checkClass() {
        Class<PointSpaces> type = PointSpaces.class;
        require(Modifier.isPublic(type.getModifiers()) && Modifier.isFinal(type.getModifiers()),
                "1: the class is public and final");
        require(type.getSuperclass() == Object.class && type.getInterfaces().length == 0, "1: the class stands alone");
        require(type.getDeclaredClasses().length == 0, "1: no nested class");
        require(type.getPackageName().isEmpty(), "no package");
    }

    private static void checkConstructor() {
        Constructor<?>[] constructors = PointSpaces.class.getDeclaredConstructors();
        require(constructors.length == 1 && constructors[0].getParameterCount() == 0
                && Modifier.isPublic(constructors[0].getModifiers()), "1: the one constructor");
    }

    private static void checkMethods() {
        Map<String, Integer> found = new TreeMap<>();
        Set<String> hidden = new TreeSet<>();
        for (Method method : PointSpaces.class.getDeclaredMethods()) {
            require(method.getParameterCount() <= 7, "10: seven parameters at most: " + method);
            require(method.getReturnType().isPrimitive(), "4: no array is answered: " + method);
            if (Modifier.isPrivate(method.getModifiers())) {
                hidden.add(method.getName());
                continue;
            }
            require(found.put(method.getName(), method.getParameterCount()) == null, "1: one method a name: " + method);
            require(method.getModifiers() == Modifier.PUBLIC && method.getReturnType() == int.class,
                    "1: public int: " + method);
            for (Class<?> parameter : method.getParameterTypes()) {
                require(parameter == int.class, "1: int parameters: " + method);
            }
        }
        require(found.equals(face()), "1: the methods of the document: " + found);
        hidden.retainAll(face().keySet());
        require(hidden.isEmpty(), "1: no private method bears a public name: " + hidden);
    }

    private static void checkFields() {
        int fields = 0;
        for (Field field : PointSpaces.class.getDeclaredFields()) {
            require(Modifier.isPrivate(field.getModifiers()), "1: private: " + field);
            if (Modifier.isStatic(field.getModifiers())) {
                require(Modifier.isFinal(field.getModifiers())
                        && (field.getType() == int.class || field.getType() == long.class), "5: a constant: " + field);
            } else {
                fields++;
            }
        }
        require(fields <= MOST_FIELDS, "10: forty fields at most: " + fields);
    }

    // The text.

    private static String withoutComments(String text) {
        return text.replaceAll("(?s)/\\*.*?\\*/", " ").replaceAll("//[^\n]*", " ");
    }

    /** Each method's text from its first brace to its last; the constructor's under the class's name. */
    private static Map<String, String> bodies(String text) {
        Map<String, String> bodies = new TreeMap<>();
        Matcher head = Pattern.compile("(?m)^    (?:public|private)[ \\w\\[\\]]* (\\w+)\\([^()]*\\) \\{$").matcher(text);
        while (head.find()) {
            int end = text.indexOf("\n    }\n", head.end());
            String body = text.substring(head.end(), end);
            require(bodies.put(head.group(1), body) == null, "1: one method a name: " + head.group(1));
        }
        return bodies;
    }

    private static void checkOneClass(String text) {
        require(text.strip().startsWith("public final class PointSpaces {"), "1: nothing stands before the class");
        require(text.split("\\bclass\\b", -1).length == 2, "1: one class");
        require(!Pattern.compile("\\bstatic\\s*\\{").matcher(text).find(), "5: no static initialiser");
    }

    /** Rules 2, 3, 6 and 11: there is no word but the allowed ones and the names that the class makes. */
    private static void checkWords(String text) {
        Set<String> known = new HashSet<>(WORDS);
        known.addAll(NUMBER_TYPES);
        known.add("PointSpaces");
        String types = String.join("|", NUMBER_TYPES);
        Matcher made = Pattern.compile("\\b(?:" + types + ")(?:\\[\\])? (\\w+)").matcher(text);
        while (made.find()) {
            known.add(made.group(1));
        }
        Matcher word = Pattern.compile("\\b[A-Za-z_$]\\w*").matcher(text);
        while (word.find()) {
            require(known.contains(word.group()), "2, 3, 6: no word " + word.group());
        }
        for (String sign : new String[] {".", "->", "::", "\"", "@", "<>", "\\"}) {
            require(!text.contains(sign), "2, 3, 6: no sign " + sign);
        }
    }

    /** Rule 4: made once by a field, and then used only by its elements. */
    private static void checkArrays(String text) {
        Set<String> arrays = new TreeSet<>();
        Matcher made = Pattern.compile("[^\n]*\\bnew\\b[^\n]*").matcher(text);
        while (made.find()) {
            Matcher field = Pattern.compile("    private final \\w+\\[\\] (\\w+) = new \\w+\\[([A-Z_]+|[1-9]\\d*)\\];")
                    .matcher(made.group());
            require(field.matches(), "4: arrays are made in field initialisers: " + made.group().trim());
            if (field.matches()) {
                arrays.add(field.group(1));
            }
        }
        require(text.split("\\[\\]", -1).length == arrays.size() + 1, "4: no array but the fields");
        String uses = text.replaceAll("(?m)^    private final .*$", "");
        for (String array : arrays) {
            require(!Pattern.compile("\\b" + array + "\\b(?!\\[)").matcher(uses).find(),
                    "4: only its elements are used: " + array);
        }
    }

    private static void checkConstants(String text) {
        Matcher constant = Pattern.compile("(?m)^    \\w+ static final [^\n]*$").matcher(text);
        while (constant.find()) {
            require(constant.group().matches("    private static final (int|long) [A-Z_]+ = [-\\w |<]+;"),
                    "5: a compile-time constant: " + constant.group().trim());
        }
    }

    private static void checkMethodsOfText(Map<String, String> bodies) {
        Set<String> due = new TreeSet<>();
        for (Method method : PointSpaces.class.getDeclaredMethods()) {
            due.add(method.getName());
        }
        due.add("PointSpaces");
        require(bodies.keySet().equals(due), "the methods of class and text are the same: " + bodies.keySet());
        for (Map.Entry<String, String> body : bodies.entrySet()) {
            require(body.getValue().split("\n").length + 1 <= LONGEST_METHOD, "10: a short method: " + body.getKey());
        }
    }

    /** Rule 8: every loop counts up against a bound, and nothing else sets its counter. */
    private static void checkLoops(Map<String, String> bodies) {
        for (Map.Entry<String, String> body : bodies.entrySet()) {
            require(!Pattern.compile("\\b(while|do)\\b").matcher(body.getValue()).find(),
                    "8: counting loops alone: " + body.getKey());
            Matcher loop = Pattern.compile("\\bfor \\(([^{}]*)\\) \\{").matcher(body.getValue());
            while (loop.find()) {
                Matcher counting = Pattern.compile("int (\\w+) = [\\w +]+; \\1 < [A-Z_]+; \\1\\+\\+")
                        .matcher(loop.group(1));
                require(counting.matches(), "8: a counter against a bound: " + loop.group(1));
                if (counting.matches()) {
                    checkCounter(counting.group(1), body.getValue());
                }
            }
        }
    }

    private static void checkCounter(String counter, String body) {
        String rest = body.replaceAll("\\bfor \\([^{}]*\\) \\{", "{");
        require(!Pattern.compile("(\\+\\+|--)\\s*" + counter + "\\b|\\b" + counter + "\\s*(\\+\\+|--|[-+*/%&|^<>]*=(?!=))")
                .matcher(rest).find(), "8: only the loop sets its counter " + counter);
    }

    // Rules 8 and 10: the calls.

    private static void checkCalls(Map<String, String> bodies) {
        for (Map.Entry<String, String> body : bodies.entrySet()) {
            Matcher call = Pattern.compile("\\b(\\w+)\\(").matcher(body.getValue());
            while (call.find()) {
                String arguments = arguments(body.getValue(), call.end());
                require(!Pattern.compile("\\b\\w+\\(").matcher(arguments).find(),
                        "10: no call inside the arguments of another: " + call.group(1) + "(" + arguments + ")");
                require(bodies.containsKey(call.group(1)), "3: a call of the class itself: " + call.group(1));
            }
        }
    }

    /** The text from a place behind an opening bracket to the closing one. */
    private static String arguments(String text, int start) {
        int open = 1;
        int end = start;
        while (open > 0) {
            char sign = text.charAt(end++);
            open += sign == '(' ? 1 : sign == ')' ? -1 : 0;
        }
        return text.substring(start, end - 1);
    }

    private static Set<String> called(String body) {
        Set<String> names = new TreeSet<>();
        Matcher call = Pattern.compile("\\b(\\w+)\\s*\\(").matcher(body);
        while (call.find()) {
            if (!NOT_CALLS.contains(call.group(1))) {
                names.add(call.group(1));
            }
        }
        return names;
    }

    /** Goes down from all methods at once; a recursion would go on for ever, so it is seen as too deep. */
    private static void checkDepth(Map<String, String> bodies) {
        Set<String> level = new TreeSet<>(bodies.keySet());
        int depth = 0;
        while (!level.isEmpty() && depth < DEEPEST_CALL) {
            Set<String> next = new TreeSet<>();
            for (String name : level) {
                next.addAll(called(bodies.getOrDefault(name, "")));
            }
            level = next;
            depth++;
        }
        require(level.isEmpty(), "8, 10: six calls deep at most, no recursion: " + level);
    }
}

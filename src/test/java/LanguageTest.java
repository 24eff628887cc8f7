import java.io.IOException;
import java.lang.reflect.Constructor;
import java.lang.reflect.Field;
import java.lang.reflect.Method;
import java.lang.reflect.Modifier;
import java.nio.file.Files;
import java.nio.file.Path;
import java.util.Map;
import java.util.Set;
import java.util.TreeMap;
import java.util.TreeSet;
import java.util.regex.Matcher;
import java.util.regex.Pattern;

/** The public face, and those rules of LANGUAGE.md that the class and its text can tell. */
public final class LanguageTest {
    private static final Path SOURCE = Path.of("src/main/java/PointSpaces.java");
    private static final String[] UNWANTED = {
        "import", "package", "float", "double", "String", "Math", "Integer", "Long", "System", "Arrays", "Object",
        "throw", "throws", "try", "catch", "synchronized", "assert", "instanceof", "null", "enum", "interface",
        "record", "protected", "hashCode", "equals", "toString", "getClass", "clone", "notify", "wait"
    };
    private static int wrong = 0;

    public static void main(String[] args) throws IOException {
        checkMembers();
        checkText(withoutComments(Files.readString(SOURCE)));
        System.out.println(wrong == 0 ? "face and language are kept" : wrong + " rules are not kept");
        if (wrong != 0) {
            System.exit(1);
        }
    }

    private static void require(boolean kept, String rule) {
        if (!kept) {
            wrong++;
            System.out.println("not kept: " + rule);
        }
    }

    private static Map<String, Integer> face() {
        Map<String, Integer> face = new TreeMap<>();
        for (String name : "plain loose turn opens dense kind needed".split(" ")) {
            face.put(name, 1);
        }
        for (String name : "open copy join meet isOpen openAt inner closure around piece maps same chains".split(" ")) {
            face.put(name, 2);
        }
        for (String name : "tie pull push continuous".split(" ")) {
            face.put(name, 3);
        }
        return face;
    }

    private static void checkMembers() {
        Class<PointSpaces> type = PointSpaces.class;
        require(Modifier.isPublic(type.getModifiers()) && Modifier.isFinal(type.getModifiers()), "public and final");
        require(type.getSuperclass() == Object.class && type.getInterfaces().length == 0, "stands alone");
        require(type.getDeclaredClasses().length == 0, "no nested class");
        Constructor<?>[] constructors = type.getDeclaredConstructors();
        require(constructors.length == 1 && constructors[0].getParameterCount() == 0
                && Modifier.isPublic(constructors[0].getModifiers()), "the one constructor");
        checkMethods(type);
        checkFields(type);
    }

    private static void checkMethods(Class<?> type) {
        Map<String, Integer> due = face();
        Map<String, Integer> found = new TreeMap<>();
        Set<String> hidden = new TreeSet<>();
        for (Method method : type.getDeclaredMethods()) {
            require(method.getParameterCount() <= 7, "seven parameters at most: " + method);
            if (Modifier.isPrivate(method.getModifiers())) {
                hidden.add(method.getName());
                continue;
            }
            require(found.put(method.getName(), method.getParameterCount()) == null, "one method a name: " + method);
            require(method.getModifiers() == Modifier.PUBLIC && method.getReturnType() == int.class,
                    "public int: " + method);
            for (Class<?> parameter : method.getParameterTypes()) {
                require(parameter == int.class, "int parameters: " + method);
            }
        }
        require(found.equals(due), "the methods of the document: " + found);
        hidden.retainAll(due.keySet());
        require(hidden.isEmpty(), "no private method bears a public name: " + hidden);
    }

    private static void checkFields(Class<?> type) {
        for (Field field : type.getDeclaredFields()) {
            require(Modifier.isPrivate(field.getModifiers()), "private: " + field);
            if (Modifier.isStatic(field.getModifiers())) {
                require(Modifier.isFinal(field.getModifiers())
                        && (field.getType() == int.class || field.getType() == long.class), "a constant: " + field);
            }
        }
    }

    private static String withoutComments(String text) {
        return text.replaceAll("(?s)/\\*.*?\\*/", " ").replaceAll("//[^\n]*", " ");
    }

    private static void checkText(String text) {
        for (String word : UNWANTED) {
            require(!Pattern.compile("\\b" + word + "\\b").matcher(text).find(), "no word " + word);
        }
        require(!text.contains("->") && !text.contains("::") && !text.contains("\""), "no lambda, reference or text");
        Matcher made = Pattern.compile("[^\n]*\\bnew\\b[^\n]*").matcher(text);
        while (made.find()) {
            require(made.group().matches("    private final \\w+\\[\\] \\w+ = new \\w+\\[\\w+\\];"),
                    "arrays are made in field initialisers: " + made.group().trim());
        }
        Matcher nested = Pattern.compile("\\b(?!if|for|while|switch|return)\\w+\\([^(){};]*\\b\\w+\\(").matcher(text);
        while (nested.find()) {
            require(false, "no call inside the arguments of another: " + nested.group());
        }
    }
}

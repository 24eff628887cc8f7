import java.io.IOException;
import java.lang.reflect.Method;
import java.nio.file.Files;
import java.nio.file.Path;
import java.util.ArrayList;
import java.util.List;
import java.util.regex.Matcher;
import java.util.regex.Pattern;
import java.util.stream.Stream;

/** README.md: its example answers what it says, and it names every call and every test. */
public final class ReadmeTest {
    private static int wrong = 0;

    public static void main(String[] args) throws IOException, ReflectiveOperationException {
        String text = Files.readString(Path.of("README.md"));
        checkExample(text);
        checkCalls(text);
        checkTests(text);
        System.out.println(wrong == 0 ? "README.md is right" : wrong + " lines of README.md are wrong");
        if (wrong != 0) {
            System.exit(1);
        }
    }

    private static void require(boolean right, String what) {
        if (!right) {
            wrong++;
            System.out.println(what);
        }
    }

    /** Each line of the form "x.name(1, 2);  // 3: why" is called, and 3 is due. */
    private static void checkExample(String text) throws ReflectiveOperationException {
        PointSpaces x = new PointSpaces();
        Matcher line = Pattern.compile("(?m)^x\\.(\\w+)\\(([-\\d, ]*)\\); +// (-?\\d+): ").matcher(text);
        int lines = 0;
        while (line.find()) {
            lines++;
            int answer = call(x, line.group(1), line.group(2).split(", "));
            require(answer == Integer.parseInt(line.group(3)), line.group() + "answered " + answer);
        }
        require(lines == text.split("\nx\\.", -1).length - 1 && lines > 0, "a line of the example can't be read");
    }

    private static int call(PointSpaces x, String name, String[] numbers) throws ReflectiveOperationException {
        List<Class<?>> types = new ArrayList<>();
        List<Object> values = new ArrayList<>();
        for (String number : numbers) {
            types.add(int.class);
            values.add(Integer.valueOf(number));
        }
        Method method = PointSpaces.class.getMethod(name, types.toArray(new Class<?>[0]));
        return (Integer) method.invoke(x, values.toArray());
    }

    private static void checkCalls(String text) {
        for (Method method : PointSpaces.class.getMethods()) {
            if (method.getDeclaringClass() == PointSpaces.class) {
                boolean named = Pattern.compile("`" + method.getName() + "\\(").matcher(text).find();
                require(named, "no word on " + method.getName());
            }
        }
    }

    private static void checkTests(String text) throws IOException {
        try (Stream<Path> files = Files.list(Path.of("src/test/java"))) {
            for (Path file : (Iterable<Path>) files::iterator) {
                String name = file.getFileName().toString().replace(".java", "");
                require(text.contains("- `" + name + "`:"), "no word on " + name);
            }
        }
    }
}

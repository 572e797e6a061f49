import java.io.IOException;
import java.lang.reflect.Method;
import java.nio.file.Files;
import java.nio.file.Path;
import java.util.Set;
import java.util.TreeSet;
import java.util.regex.Matcher;
import java.util.regex.Pattern;

/** README.md's example answers as it says, and its table names every call. Run from the project's root. */
public final class ReadmeTest {
    private static final Pattern CALL = Pattern.compile("mill\\.(\\w+)\\(([-0-9, ]*)\\); *// (-?[0-9]+)(:.*)?");

    public static void main(String[] args) throws IOException, ReflectiveOperationException {
        String text = Files.readString(Path.of("README.md"));
        example(text);
        table(text);
        Due.end();
    }

    private static void example(String text) throws ReflectiveOperationException {
        int start = text.indexOf("```java\n");
        int end = text.indexOf("```", start + 3);
        String[] lines = text.substring(start, end).split("\n");
        Due.due("the example begins with an object", lines[1].equals("MillOfDistances mill = new MillOfDistances();") ? 1 : 0, 1);
        MillOfDistances mill = new MillOfDistances();
        for (int i = 2; i < lines.length; i++) {
            Matcher call = CALL.matcher(lines[i]);
            Due.due("a call with its answer: " + lines[i], call.matches() ? 1 : 0, 1);
            Due.due(lines[i], answer(mill, call.group(1), call.group(2)), Long.parseLong(call.group(3)));
        }
        Due.due("some calls", lines.length > 10 ? 1 : 0, 1);
    }

    private static long answer(MillOfDistances mill, String name, String told) throws ReflectiveOperationException {
        String[] numbers = told.split(", ");
        for (Method method : MillOfDistances.class.getDeclaredMethods()) {
            if (method.getName().equals(name) && method.getParameterCount() == numbers.length) {
                Object[] arguments = new Object[numbers.length];
                for (int i = 0; i < numbers.length; i++) {
                    arguments[i] = Integer.valueOf(numbers[i]);
                }
                return ((Number) method.invoke(mill, arguments)).longValue();
            }
        }
        throw new NoSuchMethodException(name + "(" + told + ")");
    }

    private static void table(String text) {
        Set<String> named = new TreeSet<>();
        Matcher rows = Pattern.compile("(?m)^\\| (`[^|]*) \\|").matcher(text);
        while (rows.find()) {
            for (String name : rows.group(1).replace("`", "").split(" ")) {
                Due.due("named once: " + name, named.add(name) ? 1 : 0, 1);
            }
        }
        Set<String> face = new TreeSet<>();
        for (Method method : MillOfDistances.class.getDeclaredMethods()) {
            if (java.lang.reflect.Modifier.isPublic(method.getModifiers())) {
                face.add(method.getName());
            }
        }
        Due.due("every call is named: " + face + " " + named, face.equals(named) ? 1 : 0, 1);
    }
}

import java.io.IOException;
import java.lang.reflect.Field;
import java.lang.reflect.Method;
import java.nio.file.Files;
import java.nio.file.Path;
import java.util.List;
import java.util.regex.Matcher;
import java.util.regex.Pattern;

/** The README names the whole public face, and its example answers what it says. */
public final class ReadmeTest {
    private static final Path README = Path.of("README.md");
    private static final Pattern CALL = Pattern.compile("table\\.(\\w+)\\(([-0-9, ]+)\\); *// (-?\\w+).*");

    public static void main(String[] args) throws IOException, ReflectiveOperationException {
        List<String> lines = Files.readAllLines(README);
        namesTheFace(String.join("\n", lines));
        example(lines);
        Due.end();
    }

    private static void namesTheFace(String text) {
        for (Field field : CrdtTable.class.getFields()) {
            Due.is("README names " + field.getName(), true, text.contains("`" + field.getName() + "`"));
        }
        for (Method method : CrdtTable.class.getMethods()) {
            if (method.getDeclaringClass() == CrdtTable.class) {
                Due.is("README names " + method.getName(), true, text.contains("`" + method.getName() + "("));
            }
        }
    }

    private static void example(List<String> lines) throws ReflectiveOperationException {
        CrdtTable table = new CrdtTable();
        int calls = 0;
        for (String line : lines) {
            Matcher call = CALL.matcher(line);
            if (call.matches()) {
                calls++;
                String[] numbers = call.group(2).split(", ");
                Due.is(line, told(call.group(3)), answer(table, call.group(1), numbers));
            } else {
                Due.is(line + " is told with its answer", false, line.startsWith("table."));
            }
        }
        Due.is("README has an example", true, calls > 0);
    }

    private static String answer(CrdtTable table, String name, String[] numbers) throws ReflectiveOperationException {
        Class<?>[] types = new Class<?>[numbers.length];
        Object[] values = new Object[numbers.length];
        for (int i = 0; i < numbers.length; i++) {
            types[i] = int.class;
            values[i] = Integer.valueOf(numbers[i]);
        }
        return "" + CrdtTable.class.getMethod(name, types).invoke(table, values);
    }

    /** The answer as the README writes it: a number, true or false, or the name of a constant. */
    private static String told(String word) throws ReflectiveOperationException {
        return Character.isUpperCase(word.charAt(0)) ? "" + CrdtTable.class.getField(word).get(null) : word;
    }
}

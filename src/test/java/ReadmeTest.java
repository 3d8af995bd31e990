import java.io.IOException;
import java.lang.reflect.Field;
import java.lang.reflect.Method;
import java.lang.reflect.Modifier;
import java.nio.charset.StandardCharsets;
import java.nio.file.Files;
import java.nio.file.Path;
import java.util.regex.Matcher;
import java.util.regex.Pattern;

/** README.md tells the truth: its examples answer as it says, and it names the whole face. */
final class ReadmeTest {
    private static final Pattern CALL = Pattern.compile("x\\.(\\w+)\\(([^)]*)\\);\\s*// (-?\\d+|[A-Z]+)(:.*)?");

    public static void main(String[] args) throws IOException, ReflectiveOperationException {
        String text = Files.readString(Path.of("README.md"), StandardCharsets.US_ASCII);
        examples(text);
        namesTheFace(text);
        Due.end();
    }

    private static void examples(String text) throws ReflectiveOperationException {
        StiltWays x = null;
        int asked = 0;
        boolean inside = false;
        for (String line : text.split("\n")) {
            if (line.startsWith("```")) {
                inside = line.equals("```java");
            } else if (inside && line.equals("StiltWays x = new StiltWays();")) {
                x = new StiltWays();
            } else if (inside) {
                asked++;
                ask(x, line);
            }
        }
        Due.is("there are examples", asked > 40 ? 1 : 0, 1);
    }

    private static void ask(StiltWays x, String line) throws ReflectiveOperationException {
        Matcher call = CALL.matcher(line);
        Due.is("an example can be read: " + line, call.matches() ? 1 : 0, 1);
        if (call.matches()) {
            Due.is(line, answer(x, call.group(1), call.group(2)), told(call.group(3)));
        }
    }

    private static int answer(StiltWays x, String name, String numbers) throws ReflectiveOperationException {
        String[] told = numbers.isEmpty() ? new String[0] : numbers.split(", ");
        for (Method method : StiltWays.class.getDeclaredMethods()) {
            if (method.getName().equals(name) && method.getParameterCount() == told.length) {
                Object[] arguments = new Object[told.length];
                for (int i = 0; i < told.length; i++) {
                    boolean wide = method.getParameterTypes()[i] == long.class;
                    long v = Long.decode(told[i].replace("L", ""));
                    arguments[i] = wide ? (Object) v : (Object) (int) v;
                }
                return (int) method.invoke(x, arguments);
            }
        }
        Due.is("there is a call " + name + " of " + told.length, 0, 1);
        return 0;
    }

    private static int told(String answer) throws ReflectiveOperationException {
        return Character.isLetter(answer.charAt(0)) ? StiltWays.class.getField(answer).getInt(null)
            : Integer.parseInt(answer);
    }

    private static void namesTheFace(String text) throws IllegalAccessException {
        for (Method method : StiltWays.class.getDeclaredMethods()) {
            if (Modifier.isPublic(method.getModifiers())) {
                Pattern row = Pattern.compile("\n\\| `" + method.getName() + "\\(([^)]*)\\)` \\|");
                Matcher named = row.matcher(text);
                boolean found = named.find();
                Due.is("a row of " + method, found ? 1 : 0, 1);
                if (!found) {
                    continue;
                }
                int names = named.group(1).isEmpty() ? 0 : named.group(1).split(", ").length;
                Due.is("what it takes: " + method, names, method.getParameterCount());
            }
        }
        for (Field field : StiltWays.class.getDeclaredFields()) {
            if (Modifier.isPublic(field.getModifiers())) {
                String row = "\n| `" + field.getName() + "` | " + field.getInt(null) + " |";
                Due.is("a row of " + field, text.contains(row) ? 1 : 0, 1);
            }
        }
    }
}

import java.io.IOException;
import java.lang.reflect.Method;
import java.lang.reflect.Modifier;
import java.nio.file.Files;
import java.nio.file.Path;
import java.util.Set;
import java.util.TreeSet;
import java.util.regex.Matcher;
import java.util.regex.Pattern;

/** The example of README.md: each of its calls answers what its comment says, and no method is left out. */
public final class ReadmeTest {
    private static final Check CHECK = new Check();
    private static final Pattern EXAMPLE = Pattern.compile("(?s)```java\n(.*?)```");
    private static final Pattern MADE = Pattern.compile("RelexBuffer x = new RelexBuffer\\((.*?)\\);.*");
    private static final Pattern CALL = Pattern.compile("x\\.(\\w+)\\((.*?)\\);\\s*// (-?\\d+)(:.*)?");

    private static RelexBuffer x = null;

    public static void main(String[] args) throws IOException, ReflectiveOperationException {
        Matcher example = EXAMPLE.matcher(Files.readString(Path.of("README.md")));
        CHECK.holds("README.md has an example", example.find());
        Set<String> told = new TreeSet<>();
        for (String line : example.group(1).split("\n")) {
            Matcher made = MADE.matcher(line);
            Matcher call = CALL.matcher(line);
            if (made.matches()) {
                int[] sizes = values(made.group(1));
                x = new RelexBuffer(sizes[0], sizes[1], sizes[2], sizes[3]);
            } else if (call.matches()) {
                CHECK.due(line.trim(), answer(call.group(1), values(call.group(2))), Integer.parseInt(call.group(3)));
                told.add(call.group(1));
            } else {
                CHECK.due("a line that is no call", line, "");
            }
        }
        CHECK.due("the methods of the example", told.toString(), methods().toString());
        CHECK.end();
    }

    private static Set<String> methods() {
        Set<String> all = new TreeSet<>();
        for (Method method : RelexBuffer.class.getDeclaredMethods()) {
            if (Modifier.isPublic(method.getModifiers())) {
                all.add(method.getName());
            }
        }
        return all;
    }

    private static int answer(String name, int[] values) throws ReflectiveOperationException {
        Class<?>[] types = new Class<?>[values.length];
        Object[] arguments = new Object[values.length];
        for (int k = 0; k < values.length; k++) {
            types[k] = int.class;
            arguments[k] = values[k];
        }
        return (int) RelexBuffer.class.getMethod(name, types).invoke(x, arguments);
    }

    private static int[] values(String list) throws ReflectiveOperationException {
        String[] words = list.isEmpty() ? new String[0] : list.split(", ");
        int[] values = new int[words.length];
        for (int k = 0; k < words.length; k++) {
            values[k] = value(words[k]);
        }
        return values;
    }

    private static int value(String word) throws ReflectiveOperationException {
        if (word.startsWith("RelexBuffer.")) {
            return RelexBuffer.class.getField(word.substring("RelexBuffer.".length())).getInt(null);
        }
        if (word.startsWith("0b")) {
            return Integer.parseInt(word.substring(2), 2);
        }
        return Integer.decode(word);
    }
}

import java.io.IOException;
import java.lang.reflect.Constructor;
import java.lang.reflect.Field;
import java.lang.reflect.Method;
import java.lang.reflect.Modifier;
import java.nio.file.Files;
import java.nio.file.Path;
import java.util.HashSet;
import java.util.List;
import java.util.Set;
import java.util.TreeSet;
import java.util.regex.Matcher;
import java.util.regex.Pattern;

/** The public face of the document, and those rules of LANGUAGE.md that can be seen from outside. */
public final class FaceTest {
    private static final Check CHECK = new Check();
    private static final Set<String> METHODS = Set.of(
        "setEdges 3", "setAccept 3", "setStart 2", "edge 2", "acceptKind 1", "acceptMode 1", "start 1", "splice 4",
        "edits 0", "length 0", "symbolAt 1", "tokenCount 0", "token 2", "tokenAt 1", "stableCount 1", "endMode 0");
    private static final Set<String> CONSTANTS = Set.of(
        "OK", "NONE", "STAY", "BAD", "LOCKED", "FULL", "START", "END", "KIND", "MODE", "REACH", "BIRTH");
    private static final List<String> NOT_ALLOWED = List.of(
        "import", "package", "float", "double", "String", "Math", "Integer", "System", "Arrays", "Object", "null",
        "throw", "throws", "try", "catch", "finally", "synchronized", "assert", "instanceof", "interface", "enum",
        "record", "protected", "var", "clone", "getClass", "hashCode", "equals", "toString");

    public static void main(String[] args) throws IOException {
        oneFinalClass();
        constructor();
        methods();
        fields();
        words();
        CHECK.end();
    }

    private static void oneFinalClass() {
        int modifiers = RelexBuffer.class.getModifiers();
        CHECK.holds("the class is public and final", Modifier.isPublic(modifiers) && Modifier.isFinal(modifiers));
        CHECK.due("nested classes", RelexBuffer.class.getDeclaredClasses().length, 0);
        CHECK.holds("the class extends nothing", RelexBuffer.class.getSuperclass() == Object.class);
        CHECK.due("interfaces", RelexBuffer.class.getInterfaces().length, 0);
    }

    private static void constructor() {
        Constructor<?>[] all = RelexBuffer.class.getDeclaredConstructors();
        CHECK.due("constructors", all.length, 1);
        CHECK.due("its parameters", all[0].getParameterCount(), 4);
        CHECK.holds("it is public", Modifier.isPublic(all[0].getModifiers()));
    }

    private static void methods() {
        Set<String> seen = new TreeSet<>();
        Set<String> names = new HashSet<>();
        METHODS.forEach(method -> names.add(method.split(" ")[0]));
        for (Method method : RelexBuffer.class.getDeclaredMethods()) {
            String name = method.getName();
            CHECK.holds(name + " has at most seven parameters", method.getParameterCount() <= 7);
            CHECK.holds(name + " answers no array", !method.getReturnType().isArray());
            if (Modifier.isPrivate(method.getModifiers())) {
                CHECK.holds(name + " is not the name of a public method", !names.contains(name));
                continue;
            }
            CHECK.holds(name + " is public, not static, and answers an int", Modifier.isPublic(method.getModifiers())
                && !Modifier.isStatic(method.getModifiers()) && method.getReturnType() == int.class);
            seen.add(name + " " + method.getParameterCount());
        }
        CHECK.holds("the public methods are those of the document: " + seen, seen.equals(METHODS));
    }

    private static void fields() {
        Set<String> seen = new TreeSet<>();
        int kept = 0;
        for (Field field : RelexBuffer.class.getDeclaredFields()) {
            Class<?> type = field.getType();
            boolean number = type == int.class || type == long.class;
            if (Modifier.isStatic(field.getModifiers())) {
                CHECK.holds(field.getName() + " is a constant", number && Modifier.isFinal(field.getModifiers()));
            } else {
                kept++;
                Class<?> cell = type.isArray() ? type.getComponentType() : type;
                CHECK.holds(field.getName() + " is of a plain type", cell.isPrimitive());
            }
            if (!Modifier.isPrivate(field.getModifiers())) {
                CHECK.holds(field.getName() + " is public", Modifier.isPublic(field.getModifiers()));
                seen.add(field.getName());
            }
        }
        CHECK.holds("at most forty fields", kept <= 40);
        CHECK.holds("the public fields are those of the document: " + seen, seen.equals(CONSTANTS));
    }

    private static void words() throws IOException {
        String source = Files.readString(Path.of("src/main/java/RelexBuffer.java"));
        String code = source.replaceAll("(?s)/\\*.*?\\*/", " ").replaceAll("//[^\n]*", " ");
        for (String word : NOT_ALLOWED) {
            Matcher found = Pattern.compile("\\b" + word + "\\b").matcher(code);
            CHECK.holds("the word " + word + " is not used", !found.find());
        }
        CHECK.holds("no lambda and no method reference", !code.contains("->") && !code.contains("::"));
        CHECK.holds("no text in quotes", code.indexOf('"') < 0);
    }
}

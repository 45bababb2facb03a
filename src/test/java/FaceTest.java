import java.io.IOException;
import java.lang.reflect.Constructor;
import java.lang.reflect.Executable;
import java.lang.reflect.Field;
import java.lang.reflect.Method;
import java.lang.reflect.Modifier;
import java.nio.file.Files;
import java.nio.file.Path;
import java.util.ArrayDeque;
import java.util.Deque;
import java.util.HashSet;
import java.util.List;
import java.util.Set;
import java.util.StringJoiner;
import java.util.TreeSet;
import java.util.regex.Matcher;
import java.util.regex.Pattern;

/** The public face of the document, and those rules of LANGUAGE.md that can be seen from outside. */
public final class FaceTest {
    private static final Check CHECK = new Check();
    private static final Set<String> METHODS = Set.of(
        "int setEdges(int, int, int)", "int setAccept(int, int, int)", "int setStart(int, int)",
        "int edge(int, int)", "int acceptKind(int)", "int acceptMode(int)", "int start(int)",
        "int splice(int, int, int, int)", "int edits()", "int length()", "int symbolAt(int)", "int tokenCount()",
        "int token(int, int)", "int tokenAt(int)", "int stableCount(int)", "int endMode()");
    private static final Set<String> CONSTANTS = Set.of(
        "int OK = 0", "int NONE = -1", "int STAY = -1", "int BAD = -2", "int LOCKED = -3", "int FULL = -4",
        "int START = 0", "int END = 1", "int KIND = 2", "int MODE = 3", "int REACH = 4", "int BIRTH = 5");
    private static final int LONGEST_METHOD = 60;
    private static final List<String> NOT_ALLOWED = List.of(
        "import", "package", "float", "double", "String", "Math", "Integer", "System", "Arrays", "Object", "null",
        "throw", "throws", "try", "catch", "finally", "synchronized", "assert", "instanceof", "interface", "enum",
        "record", "protected", "var", "clone", "getClass", "hashCode", "equals", "toString");

    public static void main(String[] args) throws IOException, IllegalAccessException {
        oneFinalClass();
        constructor();
        methods();
        fields();
        String code = code();
        words(code);
        arraysAreMadeInFields(code);
        noCallWithinACall(code);
        methodsAreShort(code);
        CHECK.end();
    }

    private static void oneFinalClass() {
        int modifiers = RelexBuffer.class.getModifiers();
        CHECK.holds("the class is public and final", Modifier.isPublic(modifiers) && Modifier.isFinal(modifiers));
        CHECK.due("nested classes", RelexBuffer.class.getDeclaredClasses().length, 0);
        CHECK.holds("the class extends nothing", RelexBuffer.class.getSuperclass() == Object.class);
        CHECK.due("interfaces", RelexBuffer.class.getInterfaces().length, 0);
    }

    private static void constructor() {
        Constructor<?>[] all = RelexBuffer.class.getDeclaredConstructors();
        CHECK.due("constructors", all.length, 1);
        CHECK.due("its parameters", types(all[0]), "(int, int, int, int)");
        CHECK.holds("it is public", Modifier.isPublic(all[0].getModifiers()));
    }

    private static String types(Executable call) {
        StringJoiner all = new StringJoiner(", ", "(", ")");
        for (Class<?> type : call.getParameterTypes()) {
            all.add(type.getName());
        }
        return all.toString();
    }

    private static void methods() {
        Set<String> seen = new TreeSet<>();
        Set<String> names = new HashSet<>();
        METHODS.forEach(method -> names.add(method.split("[ (]")[1]));
        for (Method method : RelexBuffer.class.getDeclaredMethods()) {
            String name = method.getName();
            CHECK.holds(name + " has at most seven parameters", method.getParameterCount() <= 7);
            CHECK.holds(name + " answers no array", !method.getReturnType().isArray());
            if (Modifier.isPrivate(method.getModifiers())) {
                CHECK.holds(name + " is not the name of a public method", !names.contains(name));
                continue;
            }
            CHECK.holds(name + " is public and not static", Modifier.isPublic(method.getModifiers())
                && !Modifier.isStatic(method.getModifiers()));
            seen.add(method.getReturnType().getName() + " " + name + types(method));
        }
        CHECK.holds("the public methods are those of the document: " + seen, seen.equals(METHODS));
    }

    private static void fields() throws IllegalAccessException {
        Set<String> seen = new TreeSet<>();
        int kept = 0;
        for (Field field : RelexBuffer.class.getDeclaredFields()) {
            Class<?> type = field.getType();
            boolean number = type == int.class || type == long.class;
            if (Modifier.isStatic(field.getModifiers())) {
                CHECK.holds(field.getName() + " is a constant", number && Modifier.isFinal(field.getModifiers()));
            } else {
                kept++;
                Class<?> cell = type.isArray() ? type.getComponentType() : type;
                CHECK.holds(field.getName() + " is of a plain type", cell.isPrimitive());
            }
            if (!Modifier.isPrivate(field.getModifiers())) {
                boolean open = Modifier.isPublic(field.getModifiers()) && Modifier.isStatic(field.getModifiers());
                CHECK.holds(field.getName() + " is public and static", open);
                seen.add(type.getName() + " " + field.getName() + (open ? " = " + field.get(null) : ""));
            }
        }
        CHECK.holds("at most forty fields", kept <= 40);
        CHECK.holds("the public fields are those of the document: " + seen, seen.equals(CONSTANTS));
    }

    /** The program without its comments. */
    private static String code() throws IOException {
        String source = Files.readString(Path.of("src/main/java/RelexBuffer.java"));
        return source.replaceAll("(?s)/\\*.*?\\*/", " ").replaceAll("//[^\n]*", " ");
    }

    private static void words(String code) {
        for (String word : NOT_ALLOWED) {
            Matcher found = Pattern.compile("\\b" + word + "\\b").matcher(code);
            CHECK.holds("the word " + word + " is not used", !found.find());
        }
        CHECK.holds("no lambda and no method reference", !code.contains("->") && !code.contains("::"));
        CHECK.holds("no text in quotes", code.indexOf('"') < 0);
    }

    private static void arraysAreMadeInFields(String code) {
        for (String line : code.split("\n")) {
            boolean makes = line.matches(".*\\bnew\\b.*");
            boolean field = line.matches(" {4}private final int\\[] \\w+ = new int\\[[A-Z_]+];\\s*");
            CHECK.holds("made in a field's initialiser, with a constant length: " + line.trim(), !makes || field);
        }
        CHECK.holds("one dimension", !code.matches("(?s).*\\]\\s*\\[.*"));
    }

    private static void noCallWithinACall(String code) {
        // A bracket right behind a word opens a call's arguments; if, for, while and switch have a space there.
        Deque<Boolean> open = new ArrayDeque<>();
        for (int at = 1; at < code.length(); at++) {
            if (code.charAt(at) == '(') {
                boolean call = Character.isJavaIdentifierPart(code.charAt(at - 1));
                String here = code.substring(0, at).replaceAll("(?s).*\n", "").trim();
                CHECK.holds("no call within a call: " + here, !call || !open.contains(true));
                open.push(call);
            } else if (code.charAt(at) == ')') {
                open.pop();
            }
        }
    }

    private static void methodsAreShort(String code) {
        String name = "";
        int from = 0;
        String[] lines = code.split("\n");
        for (int at = 0; at < lines.length; at++) {
            if (lines[at].matches(" {4}\\w.*\\) \\{\\s*")) {
                name = lines[at].trim();
                from = at;
            } else if (lines[at].startsWith("    }")) {
                CHECK.holds(name + " is short", at - from < LONGEST_METHOD);
            }
        }
    }
}

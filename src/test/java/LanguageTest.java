import java.lang.reflect.Constructor;
import java.lang.reflect.Field;
import java.lang.reflect.Method;
import java.lang.reflect.Modifier;
import java.nio.charset.StandardCharsets;
import java.nio.file.Files;
import java.nio.file.Path;
import java.util.Arrays;
import java.util.HashMap;
import java.util.Map;
import java.util.TreeSet;
import java.util.regex.Matcher;
import java.util.regex.Pattern;

/** The document's face, and those rules of LANGUAGE.md that a look at the source can tell. */
public final class LanguageTest {
    private static final Check check = new Check("LanguageTest");
    private static final Path SOURCE = Path.of("src/main/java/OrbitMailbox.java");
    private static final String[] FACE = {"addStation 4", "setLoss 2", "inView 2", "nextView 2",
        "receives 2", "store 3", "fileInfo 2", "fileByte 2", "fileCount 0", "existingCount 0",
        "directory 1", "unknownFiles 1", "covered 2", "timeHole 2", "open 2", "close 2",
        "receivedBytes 2", "receivedByte 3", "byteHole 3", "completeFiles 1", "requestDirectory 1",
        "requestFile 2", "withdraw 1", "queueLength 0", "queued 2", "type 1", "clearText 0",
        "fault 0", "requestText 1", "run 1", "time 0", "lastFrame 1", "total 1", "stationTotal 2",
        "ticksToComplete 2", "ticksToEmpty 0"};
    private static final String[] CONSTANTS = {"INVALID_ARGUMENT", "NOT_POSSIBLE",
        "CAPACITY_EXCEEDED", "NOT_FOUND", "IDLE", "FILE", "DIRECTORY"};

    public static void main(String[] args) throws Exception {
        methods();
        members();
        nested();
        words();
        lengths();
        check.end();
    }

    private static void methods() {
        TreeSet<String> found = new TreeSet<>();
        for (Method m : OrbitMailbox.class.getDeclaredMethods()) {
            if (Modifier.isPrivate(m.getModifiers())) {
                continue;
            }
            found.add(m.getName() + " " + m.getParameterCount());
            check.holds(m + " is public", m.getModifiers() == Modifier.PUBLIC);
            check.holds(m + " answers an int", m.getReturnType() == int.class);
            for (Class<?> type : m.getParameterTypes()) {
                check.holds(m + " takes ints", type == int.class);
            }
        }
        check.holds("the face is " + found, found.equals(new TreeSet<>(Arrays.asList(FACE))));
    }

    private static void members() {
        int mods = OrbitMailbox.class.getModifiers();
        check.holds("public and final", mods == (Modifier.PUBLIC | Modifier.FINAL));
        Constructor<?>[] makers = OrbitMailbox.class.getDeclaredConstructors();
        check.due("constructors", makers.length, 1);
        check.holds("constructor public", Modifier.isPublic(makers[0].getModifiers()));
        check.due("constructor's parameters", makers[0].getParameterCount(), 0);
        TreeSet<String> constants = new TreeSet<>();
        for (Field f : OrbitMailbox.class.getDeclaredFields()) {
            if (!Modifier.isPrivate(f.getModifiers())) {
                constants.add(f.getName());
                int wanted = Modifier.PUBLIC | Modifier.STATIC | Modifier.FINAL;
                check.holds(f + " is a constant", f.getModifiers() == wanted);
            }
        }
        TreeSet<String> due = new TreeSet<>(Arrays.asList(CONSTANTS));
        check.holds("the constants are " + constants, constants.equals(due));
    }

    private static void nested() {
        TreeSet<String> faceNames = new TreeSet<>();
        for (String method : FACE) {
            faceNames.add(method.substring(0, method.indexOf(' ')));
        }
        Class<?>[] inside = OrbitMailbox.class.getDeclaredClasses();
        check.holds("at most twelve classes", inside.length < 12);
        for (Class<?> c : inside) {
            check.holds(c + " is static", Modifier.isStatic(c.getModifiers()));
            check.holds(c + " has at most 20 fields", c.getDeclaredFields().length <= 20);
            for (Method m : c.getDeclaredMethods()) {
                check.holds(m + " has a name of its own", !faceNames.contains(m.getName()));
            }
            for (Field f : c.getDeclaredFields()) {
                check.holds(f + " is not static", !Modifier.isStatic(f.getModifiers()));
            }
        }
    }

    private static void words() throws Exception {
        String source = Files.readString(SOURCE, StandardCharsets.UTF_8);
        for (int i = 0; i < source.length(); i++) {
            check.holds("a plain sign at " + i, source.charAt(i) < 127);
        }
        String code = withoutComments(source);
        String[] barred = {"package", "import", "throw", "throws", "try", "catch", "finally",
            "synchronized", "assert", "volatile", "transient", "native", "protected", "var",
            "instanceof", "record", "java", "Object", "hashCode", "toString"};
        for (String word : barred) {
            check.holds("no " + word, !Pattern.compile("\\b" + word + "\\b").matcher(code).find());
        }
        check.holds("no lambda", !code.contains("->"));
        check.holds("no method reference", !code.contains("::"));
        Matcher library = Pattern.compile("\\b(Math|Integer|Long|Arrays|System|String|List)\\b\\.?\\w*")
            .matcher(code);
        while (library.find()) {
            check.holds(library.group() + " is allowed", library.group().matches("Math\\.(min|max)"));
        }
    }

    private static String withoutComments(String source) {
        return source.replaceAll("(?s)/\\*.*?\\*/", "").replaceAll("//[^\\n]*", "");
    }

    /** Methods of at most 60 lines and seven parameters; what opens one is indented by 4 or 8. */
    private static void lengths() throws Exception {
        Pattern head = Pattern.compile("^( {4}| {8})(?! )[^=;]*\\(([^)]*)\\) \\{$");
        Map<String, Integer> open = new HashMap<>();
        int number = 0;
        for (String line : Files.readAllLines(SOURCE)) {
            number++;
            Matcher m = head.matcher(line);
            if (m.matches() && !line.matches(" +(if|for|while|switch|\\}).*")) {
                open.put(m.group(1), number);
                check.holds(line + " takes at most 7", m.group(2).split(",").length <= 7);
            }
            String indent = line.replaceAll("[^ ].*", "");
            if (line.equals(indent + "}") && open.containsKey(indent)) {
                int length = number - open.remove(indent);
                check.holds("line " + number + " ends a short method", length < 60);
            }
        }
    }
}

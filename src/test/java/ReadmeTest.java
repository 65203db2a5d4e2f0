import java.lang.reflect.Method;
import java.nio.file.Files;
import java.nio.file.Path;
import java.util.regex.Matcher;
import java.util.regex.Pattern;

/** README.md: its example's calls answer what stands behind them, and it leaves out no call. */
public final class ReadmeTest {
    private static final Check check = new Check("ReadmeTest");
    private static final Pattern CALL =
        Pattern.compile("mailbox\\.(\\w+)\\(([^)]*)\\); +// (-?\\d+)\\b.*");

    public static void main(String[] args) throws Exception {
        String text = Files.readString(Path.of("README.md"));
        example(text.substring(text.indexOf("```java"), text.lastIndexOf("```")));
        names(text);
        check.end();
    }

    private static void example(String block) throws Exception {
        OrbitMailbox mailbox = new OrbitMailbox();
        for (String line : block.split("\n")) {
            Matcher call = CALL.matcher(line);
            if (call.matches()) {
                check.due(line, answer(mailbox, call), Integer.parseInt(call.group(3)));
            } else {
                check.holds(line + " has an answer", !line.startsWith("mailbox."));
            }
        }
    }

    private static int answer(OrbitMailbox mailbox, Matcher call) throws Exception {
        String[] words = call.group(2).isEmpty() ? new String[0] : call.group(2).split(", ");
        Object[] values = new Object[words.length];
        Class<?>[] types = new Class<?>[words.length];
        for (int i = 0; i < words.length; i++) {
            boolean isSign = words[i].startsWith("'");
            values[i] = isSign ? words[i].charAt(1) : Integer.parseInt(words[i]);
            types[i] = int.class;
        }
        return (int) OrbitMailbox.class.getMethod(call.group(1), types).invoke(mailbox, values);
    }

    private static void names(String text) {
        for (Method method : OrbitMailbox.class.getMethods()) {
            if (method.getDeclaringClass() == OrbitMailbox.class) {
                check.holds("it names " + method.getName(), text.contains("`" + method.getName() + "`"));
            }
        }
    }
}

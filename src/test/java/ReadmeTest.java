import java.io.IOException;
import java.lang.reflect.Method;
import java.lang.reflect.Modifier;
import java.nio.file.Files;
import java.nio.file.Path;
import java.util.ArrayList;
import java.util.List;
import java.util.Set;
import java.util.TreeSet;
import java.util.regex.Matcher;
import java.util.regex.Pattern;

/** Plays the examples of README.md, as they stand there: each call, and what is said of its answer. */
public final class ReadmeTest {
    private static final Checks is = new Checks("ReadmeTest");
    private static final Pattern PUT = Pattern.compile("put\\(x, \"(.*)\"\\);");
    private static final Pattern CALL = Pattern.compile("x\\.(\\w+)\\((.*)\\); +// ([^:]*)(?:: (.*))?");
    private static final Pattern TOLD = Pattern.compile("(line|export) (\\d+) is \"([^\"]*)\"");

    private static Outlinery x = new Outlinery();

    /** The calls that the examples show, those of "put" among them. */
    private static final Set<String> shown = new TreeSet<>(Set.of("line", "sign"));

    public static void main(String[] args) throws IOException {
        for (String line : examples()) {
            play(line);
        }
        is.due("the calls that are shown", face(), () -> shown);
        is.end();
    }

    /** The lines of the Java examples, without those of methods. */
    private static List<String> examples() throws IOException {
        List<String> lines = new ArrayList<>();
        boolean isJava = false;
        for (String line : Files.readAllLines(Path.of("README.md"))) {
            if (line.startsWith("```")) {
                isJava = line.equals("```java");
            } else if (isJava && !line.startsWith(" ") && !line.startsWith("}") && !line.startsWith("static ")) {
                lines.add(line);
            }
        }
        return lines;
    }

    private static Set<String> face() {
        Set<String> names = new TreeSet<>();
        for (Method method : Outlinery.class.getDeclaredMethods()) {
            if (Modifier.isPublic(method.getModifiers())) {
                names.add(method.getName());
            }
        }
        return names;
    }

    private static void play(String line) {
        Matcher put = PUT.matcher(line);
        Matcher call = CALL.matcher(line);
        if (line.equals("Outlinery x = new Outlinery();")) {
            x = new Outlinery();
        } else if (put.matches()) {
            Checks.put(x, put.group(1));
        } else if (call.matches()) {
            shown.add(call.group(1));
            is.due(line, answer(call.group(3)), () -> answered(call.group(1), call.group(2)));
            said(line, call.group(4) == null ? "" : call.group(4));
        } else {
            is.due("'" + line + "'", "a call that the test can read", () -> "none");
        }
    }

    private static Object answered(String name, String arguments) throws RuntimeException {
        for (Method method : Outlinery.class.getMethods()) {
            if (method.getName().equals(name) && method.getDeclaringClass() == Outlinery.class) {
                return called(method, arguments.isEmpty() ? new String[0] : arguments.split(", "));
            }
        }
        return "no such method";
    }

    private static Object called(Method method, String[] written) {
        Object[] arguments = new Object[written.length];
        for (int i = 0; i < written.length; i++) {
            arguments[i] = value(written[i]);
        }
        try {
            return method.invoke(x, arguments);
        } catch (ReflectiveOperationException e) {
            return "throws " + (e.getCause() == null ? e : e.getCause()).getClass().getSimpleName();
        }
    }

    /** What stands ahead of the ":" behind a call. */
    private static Object answer(String written) {
        return written.startsWith("throws ") ? written : value(written);
    }

    private static Object value(String written) {
        if (written.equals("true") || written.equals("false")) {
            return written.equals("true");
        }
        if (written.matches("'.'")) {
            return written.charAt(1);
        }
        if (written.matches("\\(char\\) \\d+")) {
            return (char) Integer.parseInt(written.substring(7));
        }
        if (written.matches("'[a-z]' - 'a'")) {
            return written.charAt(1) - 'a';
        }
        if (written.matches("1 << \\('[a-z]' - 'a'\\)")) {
            return 1 << (written.charAt(7) - 'a');
        }
        if (written.matches("-?\\d+")) {
            return Integer.parseInt(written);
        }
        try {
            return Outlinery.class.getField(written.replace("Outlinery.", "")).getInt(null);
        } catch (ReflectiveOperationException e) {
            return "'" + written + "' is no value";
        }
    }

    /** What is said of lines of the text and of the export. */
    private static void said(String line, String remark) {
        Matcher told = TOLD.matcher(remark);
        while (told.find()) {
            int at = Integer.parseInt(told.group(2));
            String want = told.group(3);
            if (told.group(1).equals("line")) {
                is.due(line, want, () -> Checks.lineOf(x, at));
            } else {
                is.due(line, want, () -> Checks.exportedLine(x, at));
            }
        }
    }
}

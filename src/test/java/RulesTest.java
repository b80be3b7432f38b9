import java.io.IOException;
import java.nio.file.Files;
import java.nio.file.Path;
import java.util.List;
import java.util.regex.Matcher;
import java.util.regex.Pattern;

/** The rules of LANGUAGE.md that can be seen in the words of the source. */
public final class RulesTest {
    private static final Checks is = new Checks("RulesTest");
    private static final String[] NOT_THERE = {"->", "::", "\\bimport\\b", "\\bpackage\\b", "\\btry\\b", "\\bcatch\\b",
        "\\bfinally\\b", "\\bsynchronized\\b", "\\bassert\\b", "\\binstanceof\\b", "\\bSystem\\.(?!arraycopy)",
        "\\b(double|float)\\b", "\\bprotected\\b", "Exact\\(", "\\bstatic \\{", "\\bgetClass\\b", "\\bhashCode\\b",
        "\\.equals\\(", "\\.toString\\(", "\"\\s*\\+", "\\+\\s*\"", "[^\\x20-\\x7e\\n]"};

    public static void main(String[] args) throws IOException {
        String source = Files.readString(Path.of("src/main/java/Outlinery.java"));
        String code = source.replaceAll("(?s)/\\*.*?\\*/", "").replaceAll("//[^\n]*", "");
        for (String pattern : NOT_THERE) {
            is.due("'" + pattern + "'", List.of(), () -> found(pattern, code));
        }
        throwsAreWritten(code);
        libraryIsListed(code);
        methodsAreShort(source);
        is.end();
    }

    private static List<String> found(String pattern, String code) {
        return Pattern.compile(pattern).matcher(code).results().map(result -> result.group()).toList();
    }

    private static void throwsAreWritten(String code) {
        Matcher matcher = Pattern.compile("\\bthrow ([^;]*);").matcher(code);
        while (matcher.find()) {
            String thrown = matcher.group(1);
            is.due(thrown, true, () -> thrown.matches(
                "new (IllegalState|IllegalArgument|IndexOutOfBounds)Exception\\(\"[^\"]*\"\\)"));
        }
    }

    private static void libraryIsListed(String code) {
        for (String call : found("\\b(Math|Integer|Long|Arrays|System|String|Character|List|ArrayList)\\.\\w+", code)) {
            is.due(call, true, () -> List.of("Math.min", "Math.max", "Math.abs", "System.arraycopy").contains(call));
        }
    }

    private static void methodsAreShort(String source) {
        Matcher matcher = Pattern.compile("(?m)^( +)(?:public|private) [^;={]*\\)[^;={]*\\{\n(?:(?!\\1\\}).*\n)*").matcher(source);
        int methods = 0;
        while (matcher.find()) {
            methods++;
            String method = matcher.group();
            String name = method.trim().split("\\(")[0];
            is.due("lines of " + name, true, () -> method.split("\n").length <= 60);
            is.due("parameters of " + name, true,
                () -> method.substring(0, method.indexOf(')')).split(",").length <= 7);
        }
        int seen = methods;
        is.due("methods were seen", true, () -> seen > 100);
    }
}

import java.util.ArrayList;
import java.util.List;

/** What the tests share: objects with a text, the answers that are due, and how many were not. */
final class Checks {
    interface Call {
        Object answer();
    }

    private final String name;
    private int made;
    private int wrong;

    Checks(String name) {
        this.name = name;
    }

    static Outlinery text(String... lines) {
        Outlinery x = new Outlinery();
        put(x, lines);
        return x;
    }

    /** Puts lines at the end. */
    static void put(Outlinery x, String... lines) {
        for (String line : lines) {
            int at = x.lines();
            x.line(at);
            write(x, at, line);
        }
    }

    static void write(Outlinery x, int line, String signs) {
        for (int i = 0; i < signs.length(); i++) {
            x.sign(line, signs.charAt(i));
        }
    }

    static String lineOf(Outlinery x, int line) {
        StringBuilder signs = new StringBuilder();
        char sign = x.signAt(line, 0);
        for (int i = 1; sign != 0; i++) {
            signs.append(sign);
            sign = x.signAt(line, i);
        }
        return signs.toString();
    }

    static List<String> linesOf(Outlinery x) {
        List<String> lines = new ArrayList<>();
        for (int i = 0; i < x.lines(); i++) {
            lines.add(lineOf(x, i));
        }
        return lines;
    }

    static List<String> exportOf(Outlinery x) {
        List<String> lines = new ArrayList<>();
        int count = x.exported();
        for (int i = 0; i < count; i++) {
            StringBuilder signs = new StringBuilder();
            char sign = x.exportedAt(i, 0);
            for (int j = 1; sign != 0; j++) {
                signs.append(sign);
                sign = x.exportedAt(i, j);
            }
            lines.add(signs.toString());
        }
        return lines;
    }

    /** What a call answers, or the name of what it throws. */
    static Object told(Call call) {
        try {
            return call.answer();
        } catch (RuntimeException e) {
            return e.getClass().getSimpleName();
        }
    }

    void due(String what, Object want, Call call) {
        made++;
        Object got = told(call);
        if (!want.equals(got)) {
            wrong++;
            System.out.println(name + ": " + what + " answered " + got + ", due is " + want);
        }
    }

    void noSuch(String what, Call call) {
        due(what, "IndexOutOfBoundsException", call);
    }

    void outOfRange(String what, Call call) {
        due(what, "IllegalArgumentException", call);
    }

    void cannot(String what, Call call) {
        due(what, "IllegalStateException", call);
    }

    void dueLines(String what, Outlinery x, String... want) {
        due(what, List.of(want), () -> linesOf(x));
    }

    void dueExport(String what, Outlinery x, String... want) {
        due(what, List.of(want), () -> exportOf(x));
    }

    void end() {
        System.out.println(name + ": " + made + " answers, " + wrong + " of them not as due");
        if (wrong != 0) {
            System.exit(1);
        }
    }
}

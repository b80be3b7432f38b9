import java.util.ArrayList;
import java.util.List;

/** What the tests share: objects with a text, the answers that are due, and how many were not. */
final class Checks {
    interface Call {
        Object answer();
    }

    /** Makes an object, the same one each time, of so few calls that there are enough left of the 512. */
    interface Made {
        Outlinery make();
    }

    interface Use {
        Object of(Outlinery x);
    }

    /** A call of which one argument is given. */
    interface Asked {
        Object of(int number);
    }

    interface AskedOf {
        Object of(Outlinery x, int number);
    }

    static final String NO_SUCH = "IndexOutOfBoundsException";
    static final String OUT_OF_RANGE = "IllegalArgumentException";
    static final String CANNOT = "IllegalStateException";

    /** Where a loop ends that a class which is not as due would never end. */
    private static final int MANY = 2000;

    private static final Use[] PROBES = {Checks::linesOf, Checks::exportOf, Checks::runsOf, Checks::timesOf,
        Checks::archiveOf};

    private final String name;
    private String promise = "";
    private int made;
    private int wrong;

    Checks(String name) {
        this.name = name;
    }

    static Outlinery text(String... lines) {
        Outlinery x = new Outlinery();
        put(x, lines);
        return x;
    }

    /** Puts lines at the end. */
    static void put(Outlinery x, String... lines) {
        for (String line : lines) {
            int at = x.lines();
            x.line(at);
            write(x, at, line);
        }
    }

    static void write(Outlinery x, int line, String signs) {
        for (int i = 0; i < signs.length(); i++) {
            x.sign(line, signs.charAt(i));
        }
    }

    /** Puts lines without signs in, ahead of a line, until there are so many. */
    static Outlinery fill(Outlinery x, int at, int lines) {
        for (int i = x.lines(); i < lines; i++) {
            x.line(at);
        }
        return x;
    }

    static String lineOf(Outlinery x, int line) {
        StringBuilder signs = new StringBuilder();
        char sign = x.signAt(line, 0);
        for (int i = 1; sign != 0 && i < MANY; i++) {
            signs.append(sign);
            sign = x.signAt(line, i);
        }
        return signs.toString();
    }

    static List<String> linesOf(Outlinery x) {
        List<String> lines = new ArrayList<>();
        int count = x.lines();
        for (int i = 0; i < count; i++) {
            lines.add(lineOf(x, i));
        }
        return lines;
    }

    static List<String> exportOf(Outlinery x) {
        List<String> lines = new ArrayList<>();
        int count = x.exported();
        for (int i = 0; i < count; i++) {
            lines.add(exportedLine(x, i));
        }
        return lines;
    }

    static String exportedLine(Outlinery x, int line) {
        StringBuilder signs = new StringBuilder();
        char sign = x.exportedAt(line, 0);
        for (int i = 1; sign != 0 && i < MANY; i++) {
            signs.append(sign);
            sign = x.exportedAt(line, i);
        }
        return signs.toString();
    }

    /** What is kept of all blocks, and how often they were run. */
    private static Object runsOf(Outlinery x) {
        StringBuilder runs = new StringBuilder();
        runs.append(x.runs());
        for (int i = 0; i < 26; i++) {
            runs.append(' ').append(x.run(i)).append(' ').append(x.runs());
        }
        return runs.toString();
    }

    private static Object timesOf(Outlinery x) {
        return x.today(0) + " " + told(() -> x.pass(1)) + " " + x.clockOut(0) + " " + linesOf(x);
    }

    /** What is brought back into a text without lines, part by part. */
    private static Object archiveOf(Outlinery x) {
        List<Object> parts = new ArrayList<>();
        int left = x.lines();
        for (int i = 0; i < MANY && left > 0; i++) {
            left -= x.rub(0) == Outlinery.NONE ? 1 : 0;
        }
        for (int i = 0; i < 6; i++) {
            parts.add(told(x::bringBack));
            parts.add(x.lines());
        }
        parts.add(linesOf(x));
        return parts;
    }

    /** What a call answers, or the name of what it throws. */
    static Object told(Call call) {
        try {
            return call.answer();
        } catch (RuntimeException e) {
            return e.getClass().getSimpleName();
        }
    }

    /** Names the promise, and the sentence of the document, to which the next answers belong. */
    void promise(int number, String sentence) {
        promise = "promise " + number + ", \"" + sentence + "\": ";
    }

    void due(String what, Object want, Call call) {
        made++;
        Object got = told(call);
        if (!want.equals(got)) {
            wrong++;
            System.out.println(name + ": " + promise + what + " answered " + got + ", due is " + want);
        }
    }

    /** The same answer to a call with each of some numbers. */
    void dueEach(String what, Object want, Asked call, int... numbers) {
        for (int number : numbers) {
            due(what + " of " + number, want, () -> call.of(number));
        }
    }

    /** A call that is refused throws what is due, and all that can be asked then is as it would be without it. */
    void refused(String what, String exception, Made made, Use call) {
        due(what, exception, () -> call.of(made.make()));
        for (Use probe : PROBES) {
            Outlinery x = made.make();
            told(() -> call.of(x));
            due(what + ", what is there then", probe.of(made.make()), () -> probe.of(x));
        }
    }

    /** A call that is refused with each of some numbers. */
    void refusedEach(String what, String exception, Made made, AskedOf call, int... numbers) {
        for (int number : numbers) {
            refused(what + " of " + number, exception, made, x -> call.of(x, number));
        }
    }

    void noSuch(String what, Call call) {
        due(what, NO_SUCH, call);
    }

    void outOfRange(String what, Call call) {
        due(what, OUT_OF_RANGE, call);
    }

    void cannot(String what, Call call) {
        due(what, CANNOT, call);
    }

    /** What each of some lines is, as the only one of a text. */
    void dueKinds(int want, String... lines) {
        for (String line : lines) {
            due("kind of '" + line + "'", want, () -> text(line).kind(0));
        }
    }

    void dueLines(String what, Outlinery x, String... want) {
        due(what, List.of(want), () -> linesOf(x));
    }

    void dueExport(String what, Outlinery x, String... want) {
        due(what, List.of(want), () -> exportOf(x));
    }

    void end() {
        System.out.println(name + ": " + made + " answers, " + wrong + " of them not as due");
        if (wrong != 0) {
            System.exit(1);
        }
    }
}

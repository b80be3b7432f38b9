import java.util.ArrayList;
import java.util.List;
import java.util.Random;

/** Random runs of calls, each answer and each exception against those of the Model; the seeds are fixed. */
public final class ModelTest {
    private static final int MOST_CALLS = 512;
    private static final int MOST_PLAYED = 400;
    private static final int TABLES = 0, CODE = 1, DAYS = 2, EXPORT = 3, TREE = 4, ANY = 5, MODES = 6;
    private static final int[] EDGES = {-1, 0, 1, 2, 3, 8, 9, 23, 24, 25, 26, 59, 60, 61, 99, 100, 500, 501, 9999, 10000,
        Integer.MIN_VALUE, Integer.MAX_VALUE};

    private final Random random;
    private Outlinery x = new Outlinery();
    private final Model model = new Model();
    private final List<Checks.Call> played = new ArrayList<>();
    /** The latest calls. */
    private final List<String> told = new ArrayList<>();
    private int calls;
    private boolean wrong;

    /** What the run is most about, in its lines and in its calls. */
    private final int mode;

    private ModelTest(long seed) {
        random = new Random(seed);
        mode = below(MODES);
    }

    public static void main(String[] args) {
        int runs = args.length > 0 ? Integer.parseInt(args[0]) : 1000;
        int from = args.length > 1 ? Integer.parseInt(args[1]) : 0;
        int wrong = 0;
        for (int seed = from; seed < from + runs && wrong < 3; seed++) {
            ModelTest test = new ModelTest(seed);
            test.play();
            if (test.wrong) {
                wrong++;
                System.out.println("ModelTest, seed " + seed + ":\n  " + String.join("\n  ", test.told));
            }
        }
        System.out.println("ModelTest: " + runs + " runs, " + wrong + " wrong");
        if (wrong != 0) {
            System.exit(1);
        }
    }

    private void due(String call, Checks.Call got, Checks.Call want) {
        if (wrong || calls >= MOST_PLAYED) {
            return;
        }
        calls++;
        played.add(got);
        List<String> text = new ArrayList<>(model.text);
        Object wanted = Checks.told(want);
        Object answer = Checks.told(got);
        told.add(call + " -> " + answer);
        if (told.size() > 12) {
            told.remove(0);
        }
        if (!wanted.equals(answer)) {
            wrong = true;
            told.add("due is " + wanted + " with the text " + text);
        }
    }

    private void play() {
        int lines = 3 + below(random.nextInt(4) == 0 ? 36 : 16);
        for (int i = 0; i < lines && calls < 240; i++) {
            put(anyLine());
        }
        while (!wrong && calls < 340) {
            anyCall();
        }
        askMuch();
        readLines("text", model.text, (line, place) -> x.signAt(line, place));
        readLines("export", model.export(), (line, place) -> x.exportedAt(line, place));
        for (int i = 0; i < model.lines(); i++) {
            int line = i;
            read("kind(" + i + ")", model.kind(i), () -> x.kind(line));
        }
    }

    private int below(int bound) {
        return random.nextInt(bound);
    }

    private <T> T one(T[] of) {
        return of[below(of.length)];
    }

    private char oneOf(String signs) {
        return signs.charAt(below(signs.length()));
    }

    private void put(String signs) {
        int at = below(5) == 0 ? below(model.lines() + 1) : model.lines();
        due("line(" + at + ")", () -> x.line(at), () -> model.line(at));
        for (int i = 0; i < signs.length(); i++) {
            sign(at, signs.charAt(i));
        }
    }

    private void sign(int line, char sign) {
        due("sign(" + line + ", '" + sign + "')", () -> x.sign(line, sign), () -> model.sign(line, sign));
    }

    // ---- lines that mean something, most of them

    private String anyLine() {
        String line = mode == ANY || below(3) == 0 ? meantLine() : lineOfMode();
        if (below(mode == ANY ? 6 : 25) != 0) {
            return line;
        }
        int at = below(line.length() + 1);
        String signs = "* :@%|{!=+-.()[]^aez019TODOS";
        return below(2) == 0 || at == line.length() ? line.substring(0, at) + oneOf(signs) + line.substring(at)
            : line.substring(0, at) + line.substring(at + 1);
    }

    private String lineOfMode() {
        int kind = below(6);
        switch (mode) {
            case TABLES:
                return kind == 0 ? heading() : kind == 1 ? code() : kind == 2 ? property() : row();
            case CODE:
                return kind < 2 ? heading() : kind == 2 ? property() : code();
            case DAYS:
                return kind < 3 ? heading() : kind == 3 ? clock() : date();
            case EXPORT:
                return kind < 3 ? heading() : kind < 5 ? "!" + oneOf("aabct") : text();
            default:
                return kind < 5 ? heading() : property();
        }
    }

    private String property() {
        return ":" + oneOf("opq") + ":" + (below(2) == 0 ? "1" : number());
    }

    private String clock() {
        int begin = below(40);
        return "%" + begin + "-" + (below(2) == 0 ? "" : String.valueOf(begin + below(9) - (below(9) == 0 ? 1 : 0)));
    }

    private String code() {
        return "{" + oneOf("abk") + "}" + sum(below(3) + 1, below(4) == 0 ? "17cs()::" : "17()()::");
    }

    private String meantLine() {
        switch (below(20)) {
            case 0: case 1: case 2: case 3: case 4: case 5: case 6:
                return heading();
            case 7: case 8:
                return property();
            case 9: case 10:
                return date();
            case 11:
                return clock();
            case 12: case 13: case 14: case 15:
                return row();
            case 16: case 17:
                return code();
            case 18:
                return "!" + oneOf("abct");
            default:
                return text();
        }
    }

    private String heading() {
        String[] states = {"", "", "", "TODO ", "WAIT ", "DONE ", "DROP ", "TODO", "WAIT"};
        String[] titles = {"a", "b", "c", "t", "", " ", "ab", "TODO x", "b :x:y", ":x:", "a b", "long title, it is"};
        String[] tags = {"", "", "", " :x:", " :x:y:", " :z:", " :", " ::", " :x", "  :y:"};
        String line = "*".repeat(1 + below(below(9) == 0 ? 6 : 4)) + " " + one(states) + one(titles) + one(tags);
        return below(12) == 0 ? line + "...................".substring(below(10)) : line;
    }

    private String date() {
        int day = below(30);
        String last = below(2) == 0 ? "" : "-" + (day + below(6) - (below(9) == 0 ? 1 : 0));
        String distance = "+" + (below(8) == 0 ? number() : String.valueOf(1 + below(12)));
        String repeats = below(4) == 0 ? "" : distance + one(new String[] {"", "+", "."});
        return "@" + (below(9) == 0 ? number() : String.valueOf(day)) + last + repeats;
    }

    private String number() {
        return one(below(9) == 0 ? new String[] {"01", "10000", "", "00", "0"}
            : new String[] {"0", "1", "2", "7", "12", "99", "500", "998", "9999", "9990"});
    }

    private String row() {
        StringBuilder row = new StringBuilder();
        int cells = 1 + below(4);
        for (int i = 0; i < cells; i++) {
            int kind = below(5);
            row.append('|').append(kind == 0 ? "-" + number() : kind == 1 ? number() : "=" + sum(1 + below(3), "17cccsss(:"));
        }
        return row.toString();
    }

    private String sum(int terms, String of) {
        StringBuilder sum = new StringBuilder(term(oneOf(of)));
        for (int i = 1; i < terms; i++) {
            sum.append(oneOf("+-**")).append(term(oneOf(of)));
        }
        return sum.toString();
    }

    private String term(char kind) {
        switch (kind) {
            case '1':
                return String.valueOf(below(20));
            case '7':
                return number();
            case 'c':
                return below(9) == 0 ? oneOf("abcdef") + "" + oneOf("0123459") : oneOf("aab") + "" + oneOf("1123");
            case 's':
                return "S" + (below(9) == 0 ? oneOf("abcdef") : oneOf("aab"));
            case '(':
                return "(" + oneOf("abk") + ")";
            case ')':
                return "(" + oneOf("abkx") + ")";
            default:
                return ":" + oneOf("oopqr");
        }
    }

    private String text() {
        StringBuilder text = new StringBuilder();
        String[] parts = {"[a]", "[b]", "[t]", "[x]", "[A]", "[", "]", "^1", "^5", "^9", "^0", "^", "^3", "word", " "};
        int count = below(6);
        for (int i = 0; i < count; i++) {
            text.append(one(parts));
        }
        return text.toString();
    }

    // ---- calls

    private int edge(int often) {
        return below(often) == 0 ? EDGES[below(EDGES.length)] : Integer.MIN_VALUE + 1;
    }

    /** A number below a bound, one of the edges now and then. */
    private int any(int bound) {
        int edge = edge(12);
        return edge == Integer.MIN_VALUE + 1 ? below(Math.max(1, bound)) : edge;
    }

    private int anyEntry() {
        return any(model.entries() + 1);
    }

    private int anyLetter() {
        return below(3) == 0 ? any(26) : one(new Integer[] {0, 1, 2, 10, 14, 15, 16, 19});
    }

    private void anyCall() {
        int kind = below(26);
        if (mode == TREE && below(2) == 0) {
            kind = 6 + below(8);
        } else if (mode == DAYS && below(2) == 0) {
            kind = 14 + below(6);
        } else if (mode <= CODE && below(2) == 0) {
            kind = 20;
        }
        // Signs anywhere would soon make TEXT of tables and code.
        kind = mode <= CODE && kind == 1 ? 4 : kind;
        if (kind < 6) {
            changeText(kind);
        } else if (kind < 14) {
            changeEntries(kind);
        } else if (kind < 20) {
            changeTimes(kind);
        } else {
            ask();
        }
    }

    private void changeText(int kind) {
        int line = any(model.lines() + 1);
        switch (kind) {
            case 0:
                due("line(" + line + ")", () -> x.line(line), () -> model.line(line));
                break;
            case 1:
                char sign = below(9) == 0 ? oneOf("\u0000\u001f\u007f\u0100\uffff~") : oneOf(" *:@%|=+-ab19");
                sign(line, sign);
                break;
            case 2: case 3:
                due("rub(" + line + ")", () -> x.rub(line), () -> model.rub(line));
                break;
            case 4:
                if (model.lines() < 50) {
                    put(anyLine());
                }
                break;
            default:
                due("renumber()", () -> x.renumber(), model::renumber);
                break;
        }
    }

    private void changeEntries(int kind) {
        int entry = anyEntry();
        int to = anyEntry();
        boolean yes = below(2) == 0;
        int letter = anyLetter();
        int other = anyLetter();
        int state = any(6) - 1;
        switch (kind) {
            case 6:
                due("shift(" + entry + ", " + yes + ")", () -> x.shift(entry, yes), () -> model.shift(entry, yes));
                break;
            case 7:
                due("refile(" + entry + ", " + to + ", " + yes + ")", () -> x.refile(entry, to, yes),
                    () -> model.refile(entry, to, yes));
                break;
            case 8: case 9:
                due("state(" + entry + ", " + state + ")", () -> x.state(entry, state), () -> model.state(entry, state));
                break;
            case 10: case 11:
                due("state(" + entry + ", 2)", () -> x.state(entry, 2), () -> model.state(entry, 2));
                break;
            case 12:
                due("capture(" + letter + ", " + other + ")", () -> x.capture(letter, other),
                    () -> model.capture(letter, other));
                break;
            default:
                if (yes) {
                    due("archive(" + entry + ")", () -> x.archive(entry), () -> model.archive(entry));
                } else {
                    due("bringBack()", () -> x.bringBack(), model::bringBack);
                }
                break;
        }
    }

    private void changeTimes(int kind) {
        int entry = anyEntry();
        int day = any(60);
        int place = any(3);
        int with = below(9) == 0 ? one(new Integer[] {-1, 1 << 26, (1 << 26) - 1}) : below(4) << 23;
        int but = below(9) == 0 ? one(new Integer[] {-1, 1 << 26, (1 << 26) - 1}) : below(3) << 24;
        switch (kind) {
            case 14:
                due("today(" + day + ")", () -> x.today(day), () -> model.today(day));
                break;
            case 15: case 16:
                due("agenda(" + day + ", " + with + ", " + but + ", " + place + ")",
                    () -> x.agenda(day, with, but, place), () -> model.agenda(day, with, but, place));
                break;
            case 17:
                due("pass(" + day + ")", () -> x.pass(day), () -> model.pass(day));
                break;
            case 18:
                due("clockIn(" + entry + ")", () -> x.clockIn(entry), () -> model.clockIn(entry));
                break;
            default:
                due("clockOut(" + place + ")", () -> x.clockOut(place), () -> model.clockOut(place));
                break;
        }
    }

    private void ask() {
        int entry = anyEntry();
        int line = any(model.lines() + 1);
        int letter = anyLetter();
        int what = any(10);
        int table = any(2);
        int row = any(5);
        boolean yes = below(2) == 0;
        switch (below(12)) {
            case 0: case 1:
                due("entry(" + entry + ", " + what + ")", () -> x.entry(entry, what), () -> model.entry(entry, what));
                break;
            case 2:
                due("property(" + entry + ", " + letter + ", " + yes + ")", () -> x.property(entry, letter, yes),
                    () -> model.property(entry, letter, yes));
                break;
            case 3:
                due("clocked(" + entry + ")", () -> x.clocked(entry), () -> model.clocked(entry));
                break;
            case 4: case 5: case 6:
                due("cell(" + entry + ", " + table + ", " + row + ", " + what % 5 + ")",
                    () -> x.cell(entry, table, row, what % 5), () -> model.cell(entry, table, row, what % 5));
                break;
            case 7: case 8:
                due("run(" + letter + ")", () -> x.run(letter), () -> model.run(letter));
                due("runs()", () -> x.runs(), model::runs);
                break;
            case 9: case 10:
                due("link(" + line + ", " + table + ")", () -> x.link(line, table), () -> model.link(line, table));
                break;
            default:
                due("signAt(" + line + ", " + what + ")", () -> x.signAt(line, what), () -> model.signAt(line, what));
                due("exportedAt(" + line + ", " + what + ")", () -> x.exportedAt(line, what),
                    () -> model.exportedAt(line, what));
                due("exported()", () -> x.exported(), model::exported);
                due("kind(" + line + ")", () -> x.kind(line), () -> model.kind(line));
                due("lines()", () -> x.lines(), model::lines);
                due("entries()", () -> x.entries(), model::entries);
                break;
        }
    }

    /** Asks one thing after the other, as many as there are calls left. */
    private void askMuch() {
        for (int i = 0; i < 100 && calls < MOST_PLAYED - 10; i++) {
            int at = i;
            int entry = below(model.entries() + 1);
            int day = below(60);
            switch (mode) {
                case TABLES:
                    int column = i % 3;
                    int row = 1 + i / 3 % 3;
                    int holder = i / 9 % Math.max(1, model.entries());
                    due("cell(" + holder + ", 0, " + row + ", " + column + ")",
                        () -> x.cell(holder, 0, row, column), () -> model.cell(holder, 0, row, column));
                    break;
                case CODE:
                    due("run(" + "abkx".charAt(i % 4) + ")", () -> x.run("abkx".charAt(at % 4) - 'a'),
                        () -> model.run("abkx".charAt(at % 4) - 'a'));
                    due("runs()", () -> x.runs(), model::runs);
                    break;
                case DAYS:
                    due("agenda(" + day + ", 0, 0, " + i % 2 + ")", () -> x.agenda(day, 0, 0, at % 2),
                        () -> model.agenda(day, 0, 0, at % 2));
                    break;
                default:
                    due("entry(" + entry + ", " + i % 9 + ")", () -> x.entry(entry, at % 9),
                        () -> model.entry(entry, at % 9));
                    break;
            }
        }
    }

    private interface Place {
        char sign(int line, int place);
    }

    /** Reads lines, a place behind the last sign of each, and a line that is not there. */
    private void readLines(String what, List<String> want, Place got) {
        for (int i = 0; i < want.size(); i++) {
            int line = i;
            String signs = want.get(i);
            for (int j = 0; j <= signs.length(); j++) {
                int place = j;
                char due = j < signs.length() ? signs.charAt(j) : 0;
                read(what + " " + i + ", " + j, due, () -> got.sign(line, place));
            }
        }
        read(what + " behind", "IndexOutOfBoundsException", () -> got.sign(want.size(), 0));
    }

    /** Asks an object, a new one that was played likewise, when the calls of the one before are at an end. */
    private void read(String what, Object want, Checks.Call got) {
        if (wrong) {
            return;
        }
        if (calls >= MOST_CALLS) {
            x = new Outlinery();
            played.forEach(Checks::told);
            calls = played.size();
        }
        calls++;
        Object answer = Checks.told(got);
        if (!want.equals(answer)) {
            wrong = true;
            told.add(what + ": " + answer + ", due is " + want + " with the text " + model.text);
        }
    }
}

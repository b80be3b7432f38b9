import java.util.ArrayList;
import java.util.HashMap;
import java.util.HashSet;
import java.util.LinkedHashMap;
import java.util.List;
import java.util.Map;
import java.util.Set;
import java.util.regex.Matcher;
import java.util.regex.Pattern;

/** The document once more, in another way: lines as Strings, read by patterns, each question answered from the start. */
final class Model {
    private static final String NUMBER = "(?:0|[1-9][0-9]{0,3})";
    private static final String TERM = "(?:" + NUMBER + "|[a-e][1-9]|S[a-e]|\\([a-z]\\)|:[a-z])";
    private static final String SUM = TERM + "(?:[-+*]" + TERM + "){0,5}";
    private static final String CELL = "(?:-?" + NUMBER + "|=" + SUM + ")";
    private static final Pattern HEADING = Pattern.compile(
            "(\\*{1,5}) (?:(TODO|WAIT|DONE|DROP) )?(.*?)(?: ((?::[a-z])+:))?");
    private static final Pattern PROPERTY = Pattern.compile(":([a-z]):(" + NUMBER + ")");
    private static final Pattern DATE = Pattern.compile(
            "@(" + NUMBER + ")(?:-(" + NUMBER + "))?(?:\\+(" + NUMBER + ")([+.]?))?");
    private static final Pattern CLOCK = Pattern.compile("%(" + NUMBER + ")-(" + NUMBER + ")?");
    private static final Pattern ROW = Pattern.compile("(?:\\|" + CELL + ")+");
    private static final Pattern CODE = Pattern.compile("\\{([a-z])\\}(" + SUM + ")");
    private static final Pattern INCLUDE = Pattern.compile("!([a-z])");
    private static final Pattern LINK = Pattern.compile("\\[([a-z])\\]");
    private static final Pattern NOTE = Pattern.compile("\\^([1-9])");
    private static final List<String> STATES = List.of("TODO", "WAIT", "DONE", "DROP");
    private static final int ERROR = 1000000;

    /** Only for speed: what lines are does not change. */
    private static final Map<String, Integer> KINDS = new HashMap<>();

    List<String> text = new ArrayList<>();
    private final List<List<String>> archive = new ArrayList<>();
    private final List<String> archivedUnder = new ArrayList<>();
    private int today;
    private int now;
    private int runs;
    private List<String> seen = new ArrayList<>();
    private final Map<Integer, Integer> kept = new HashMap<>();
    private List<Integer> heads = new ArrayList<>();
    private List<String> headsOf = new ArrayList<>();

    static void index(boolean fine) {
        if (!fine) {
            throw new IndexOutOfBoundsException();
        }
    }

    static void range(boolean fine) {
        if (!fine) {
            throw new IllegalArgumentException();
        }
    }

    static void can(boolean fine) {
        if (!fine) {
            throw new IllegalStateException();
        }
    }

    // ---- what lines are

    static int kindOf(String line) {
        return KINDS.computeIfAbsent(line, Model::readKind);
    }

    private static int readKind(String line) {
        if (HEADING.matcher(line).matches()) {
            return 0;
        }
        if (PROPERTY.matcher(line).matches()) {
            return 1;
        }
        Matcher date = DATE.matcher(line);
        if (date.matches()) {
            boolean lastFits = date.group(2) == null || Integer.parseInt(date.group(2)) >= Integer.parseInt(date.group(1));
            boolean distanceFits = date.group(3) == null || !date.group(3).equals("0");
            return lastFits && distanceFits ? 2 : 7;
        }
        Matcher clock = CLOCK.matcher(line);
        if (clock.matches()) {
            boolean fits = clock.group(2) == null || Integer.parseInt(clock.group(2)) >= Integer.parseInt(clock.group(1));
            return fits ? 3 : 7;
        }
        if (ROW.matcher(line).matches()) {
            return 4;
        }
        if (CODE.matcher(line).matches()) {
            return 5;
        }
        return INCLUDE.matcher(line).matches() ? 6 : 7;
    }

    private static Matcher match(Pattern pattern, String line) {
        Matcher matcher = pattern.matcher(line);
        if (!matcher.matches()) {
            throw new AssertionError(line);
        }
        return matcher;
    }

    private List<Integer> heads() {
        if (text.equals(headsOf)) {
            return heads;
        }
        headsOf = new ArrayList<>(text);
        heads = new ArrayList<>();
        for (int i = 0; i < text.size(); i++) {
            if (kindOf(text.get(i)) == 0) {
                heads.add(i);
            }
        }
        return heads;
    }

    private String headOf(int entry) {
        return text.get(heads().get(entry));
    }

    private static int starsOf(String head) {
        return head.indexOf(' ');
    }

    private static String titleOf(String head) {
        return match(HEADING, head).group(3);
    }

    private static int stateOf(String head) {
        String state = match(HEADING, head).group(2);
        return state == null ? -1 : STATES.indexOf(state);
    }

    private static Set<Character> ownTags(String head) {
        Set<Character> tags = new HashSet<>();
        String signs = match(HEADING, head).group(4);
        for (int i = 0; signs != null && i < signs.length(); i++) {
            if (signs.charAt(i) != ':') {
                tags.add(signs.charAt(i));
            }
        }
        return tags;
    }

    private int parent(int entry) {
        for (int i = entry - 1; i >= 0; i--) {
            if (starsOf(headOf(i)) < starsOf(headOf(entry))) {
                return i;
            }
        }
        return -1;
    }

    private boolean isBelow(int entry, int other) {
        for (int i = parent(entry); i >= 0; i = parent(i)) {
            if (i == other) {
                return true;
            }
        }
        return false;
    }

    private List<Integer> part(int entry) {
        List<Integer> part = new ArrayList<>();
        for (int i = 0; i < heads().size(); i++) {
            if (i == entry || isBelow(i, entry)) {
                part.add(i);
            }
        }
        return part;
    }

    /** The line behind the last one of an entry itself. */
    private int ownEnd(int entry) {
        List<Integer> heads = heads();
        return entry + 1 < heads.size() ? heads.get(entry + 1) : text.size();
    }

    private int partEnd(int entry) {
        List<Integer> part = part(entry);
        return ownEnd(part.get(part.size() - 1));
    }

    private List<String> ownLines(int entry) {
        return text.subList(heads().get(entry), ownEnd(entry));
    }

    private Integer ownProperty(int entry, int letter) {
        for (String line : ownLines(entry)) {
            if (kindOf(line) == 1 && line.charAt(1) == 'a' + letter) {
                return Integer.valueOf(line.substring(3));
            }
        }
        return null;
    }

    private int inherited(int entry, int letter) {
        if (entry < 0) {
            return -1;
        }
        Integer own = ownProperty(entry, letter);
        return own != null ? own : inherited(parent(entry), letter);
    }

    private Set<Character> tags(int entry) {
        if (entry < 0) {
            return new HashSet<>();
        }
        Set<Character> tags = tags(parent(entry));
        tags.addAll(ownTags(headOf(entry)));
        return tags;
    }

    private int titled(String sign) {
        for (int i = 0; i < heads().size() && !sign.isEmpty(); i++) {
            if (titleOf(headOf(i)).startsWith(sign)) {
                return i;
            }
        }
        return -1;
    }

    private int entryOfLine(int line) {
        int entry = -1;
        for (int head : heads()) {
            entry += head <= line ? 1 : 0;
        }
        return entry;
    }

    private static String letter(int number) {
        return String.valueOf((char) ('a' + number));
    }

    // ---- lines

    int line(int line) {
        index(line >= 0 && line <= text.size());
        can(text.size() < 60);
        text.add(line, "");
        return text.size();
    }

    int sign(int line, char sign) {
        index(line >= 0 && line < text.size());
        range(sign >= 32 && sign <= 126);
        can(text.get(line).length() < 24);
        text.set(line, text.get(line) + sign);
        return text.get(line).length();
    }

    int rub(int line) {
        index(line >= 0 && line < text.size());
        String signs = text.get(line);
        if (signs.isEmpty()) {
            text.remove(line);
            return -1;
        }
        text.set(line, signs.substring(0, signs.length() - 1));
        return signs.length() - 1;
    }

    int lines() {
        return text.size();
    }

    char signAt(int line, int place) {
        index(line >= 0 && line < text.size() && place >= 0);
        return place < text.get(line).length() ? text.get(line).charAt(place) : 0;
    }

    int kind(int line) {
        index(line >= 0 && line < text.size());
        return kindOf(text.get(line));
    }

    // ---- entries

    int entries() {
        return heads().size();
    }

    private void checkEntry(int entry) {
        index(entry >= 0 && entry < heads().size());
    }

    int entry(int entry, int what) {
        checkEntry(entry);
        range(what >= 0 && what <= 8);
        switch (what) {
            case 0: return heads().get(entry);
            case 1: return starsOf(headOf(entry));
            case 2: return parent(entry);
            case 3: return stateOf(headOf(entry));
            case 4: return part(entry).size() - 1;
            case 5: return partEnd(entry) - heads().get(entry);
            case 6:
                int sum = 0;
                for (char tag : tags(entry)) {
                    sum += (int) Math.pow(2, tag - 'a');
                }
                return sum;
            case 7:
                Matcher date = dateOf(entry);
                return date == null ? -1 : Integer.parseInt(date.group(1));
            default:
                int rank = 1;
                for (int i = 0; i < entry; i++) {
                    rank += parent(i) == parent(entry) ? 1 : 0;
                }
                return rank;
        }
    }

    private int dateLine(int entry) {
        for (int i = heads().get(entry); i < ownEnd(entry); i++) {
            if (kindOf(text.get(i)) == 2) {
                return i;
            }
        }
        return -1;
    }

    private Matcher dateOf(int entry) {
        int line = dateLine(entry);
        return line < 0 ? null : match(DATE, text.get(line));
    }

    int property(int entry, int letter, boolean summed) {
        checkEntry(entry);
        range(letter >= 0 && letter < 26);
        if (!summed) {
            return inherited(entry, letter);
        }
        int sum = 0;
        for (int i : part(entry)) {
            Integer own = ownProperty(i, letter);
            sum += own == null ? 0 : own;
        }
        return sum;
    }

    private static String restarred(String head, int more) {
        int stars = starsOf(head) + more;
        can(stars >= 1 && stars <= 5);
        String anew = "*".repeat(stars) + head.substring(starsOf(head));
        can(anew.length() <= 24);
        return anew;
    }

    private List<String> restarredPart(int entry, int more) {
        List<String> lines = new ArrayList<>();
        for (int i = heads().get(entry); i < partEnd(entry); i++) {
            String line = text.get(i);
            lines.add(kindOf(line) == 0 ? restarred(line, more) : line);
        }
        return lines;
    }

    int shift(int entry, boolean more) {
        checkEntry(entry);
        List<String> lines = restarredPart(entry, more ? 1 : -1);
        int from = heads().get(entry);
        for (int i = 0; i < lines.size(); i++) {
            text.set(from + i, lines.get(i));
        }
        return starsOf(headOf(entry));
    }

    int refile(int entry, int to, boolean stays) {
        checkEntry(entry);
        checkEntry(to);
        can(entry != to && !isBelow(to, entry));
        List<String> lines = restarredPart(entry, starsOf(headOf(to)) + 1 - starsOf(headOf(entry)));
        can(!stays || text.size() + lines.size() <= 60);
        List<String> anew = new ArrayList<>();
        int at = partEnd(to);
        int place = 0;
        for (int i = 0; i <= text.size(); i++) {
            if (i == at) {
                place = anew.size();
                anew.addAll(lines);
            }
            boolean goes = !stays && i >= heads().get(entry) && i < partEnd(entry);
            if (i < text.size() && !goes) {
                anew.add(text.get(i));
            }
        }
        text = anew;
        return entryOfLine(place);
    }

    private boolean isOpen(int entry) {
        int state = stateOf(headOf(entry));
        return state == 0 || state == 1;
    }

    int state(int entry, int state) {
        checkEntry(entry);
        range(state >= -1 && state <= 3);
        int goes = state;
        String date = null;
        if (state == 2) {
            for (int i : part(entry)) {
                can(i == entry || !isOpen(i));
            }
            for (int i = 0; i < entry && inherited(parent(entry), 14) == 1; i++) {
                can(parent(i) != parent(entry) || !isOpen(i));
            }
            Matcher old = dateOf(entry);
            if (old != null && old.group(3) != null) {
                goes = 0;
                date = nextDate(old);
            }
        }
        Matcher head = match(HEADING, headOf(entry));
        String rest = headOf(entry).substring(head.start(3));
        String anew = head.group(1) + " " + (goes < 0 ? "" : STATES.get(goes) + " ") + rest;
        can(anew.length() <= 24);
        if (date != null) {
            text.set(dateLine(entry), date);
        }
        text.set(heads().get(entry), anew);
        return stateOf(headOf(entry));
    }

    private String nextDate(Matcher old) {
        int first = Integer.parseInt(old.group(1));
        int span = old.group(2) == null ? 0 : Integer.parseInt(old.group(2)) - first;
        int distance = Integer.parseInt(old.group(3));
        if (old.group(4).equals(".")) {
            first = today + distance;
        } else {
            do {
                first += distance;
            } while (old.group(4).equals("+") && first <= today);
        }
        can(first + span <= 9999);
        return "@" + first + (span == 0 ? "" : "-" + (first + span)) + "+" + distance + old.group(4);
    }

    int capture(int under, int title) {
        range(under >= 0 && under < 26);
        range(title >= 0 && title < 26);
        int parent = titled(letter(under));
        int stars = parent < 0 ? 1 : starsOf(headOf(parent)) + 1;
        can(stars <= 5 && text.size() < 60);
        int at = parent < 0 ? text.size() : partEnd(parent);
        text.add(at, "*".repeat(stars) + " TODO " + letter(title));
        return entryOfLine(at);
    }

    int archive(int entry) {
        checkEntry(entry);
        can(archive.size() < 5);
        List<String> part = text.subList(heads().get(entry), partEnd(entry));
        String title = parent(entry) < 0 ? "" : titleOf(headOf(parent(entry)));
        archive.add(new ArrayList<>(part));
        archivedUnder.add(title.isEmpty() ? "" : title.substring(0, 1));
        part.clear();
        return archive.size();
    }

    int bringBack() {
        can(!archive.isEmpty());
        int last = archive.size() - 1;
        can(text.size() + archive.get(last).size() <= 60);
        int under = titled(archivedUnder.get(last));
        text.addAll(under < 0 ? text.size() : partEnd(under), archive.get(last));
        archive.remove(last);
        archivedUnder.remove(last);
        return archive.size();
    }

    // ---- days, clocks

    int today(int day) {
        range(day >= 0 && day <= 9999);
        int before = today;
        today = day;
        return before;
    }

    private boolean isOn(int entry, int day) {
        Matcher date = dateOf(entry);
        int state = stateOf(headOf(entry));
        if (date == null || state == 2 || state == 3) {
            return false;
        }
        int first = Integer.parseInt(date.group(1));
        int last = date.group(2) == null ? first : Integer.parseInt(date.group(2));
        int distance = date.group(3) == null ? 10000 : Integer.parseInt(date.group(3));
        for (int i = 0; first + i <= day; i += distance) {
            if (day <= last + i) {
                return true;
            }
        }
        return false;
    }

    int agenda(int day, int with, int but, int place) {
        index(place >= 0);
        range(day >= 0 && day <= 9999);
        range(with >= 0 && with < 1 << 26);
        range(but >= 0 && but < 1 << 26);
        List<Integer> on = new ArrayList<>();
        for (int i = 0; i < heads().size(); i++) {
            int tags = entry(i, 6);
            if (isOn(i, day) && (tags | with) == tags && (tags & but) == 0) {
                on.add(i);
            }
        }
        return place < on.size() ? on.get(place) : -1;
    }

    int pass(int time) {
        range(time >= 1 && time <= 500);
        can(now + time <= 9999);
        now += time;
        return now;
    }

    int clockIn(int entry) {
        checkEntry(entry);
        can(text.size() < 60);
        int ended = clockOut(0);
        text.add(heads().get(entry) + 1, "%" + now + "-");
        return ended;
    }

    int clockOut(int idle) {
        range(idle >= 0 && idle <= 9999);
        int ended = 0;
        for (int i = 0; i < text.size(); i++) {
            String line = text.get(i);
            if (kindOf(line) == 3 && line.endsWith("-")) {
                int begin = Integer.parseInt(line.substring(1, line.length() - 1));
                text.set(i, line + Math.max(begin, now - idle));
                ended++;
            }
        }
        return ended;
    }

    int clocked(int entry) {
        checkEntry(entry);
        int sum = 0;
        for (int i : part(entry)) {
            for (String line : ownLines(i)) {
                if (kindOf(line) == 3 && !line.endsWith("-")) {
                    Matcher clock = match(CLOCK, line);
                    sum += Integer.parseInt(clock.group(2)) - Integer.parseInt(clock.group(1));
                }
            }
        }
        return sum;
    }

    // ---- tables, code

    /** The lines of a table in which a line stands, none if it is no row. */
    private List<Integer> tableOf(int line) {
        List<Integer> rows = new ArrayList<>();
        int from = line;
        while (from > 0 && kindOf(text.get(from)) == 4 && kindOf(text.get(from - 1)) == 4) {
            from--;
        }
        for (int i = from; i < text.size() && kindOf(text.get(i)) == 4; i++) {
            rows.add(i);
        }
        return rows;
    }

    private static String[] cellsOf(String row) {
        return row.substring(1).split("\\|", -1);
    }

    private int cellValue(int line, int column, Map<String, Integer> known) {
        String cell = cellsOf(text.get(line))[column];
        if (!cell.startsWith("=")) {
            return Integer.parseInt(cell);
        }
        return sum("cell " + line + " " + column, cell.substring(1), line, tableOf(line), known);
    }

    private int blockLine(int letter) {
        for (int i = 0; i < text.size(); i++) {
            if (kindOf(text.get(i)) == 5 && text.get(i).charAt(1) == 'a' + letter) {
                return i;
            }
        }
        return -1;
    }

    private int blockValue(int letter, Map<String, Integer> known) {
        int line = blockLine(letter);
        return line < 0 ? ERROR : sum("block " + letter, text.get(line).substring(3), line, null, known);
    }

    private int sum(String name, String sum, int line, List<Integer> table, Map<String, Integer> known) {
        Integer before = known.putIfAbsent(name, ERROR);
        if (before != null) {
            return before;
        }
        Matcher terms = Pattern.compile("([-+*]?)(" + TERM + ")").matcher(sum);
        long value = 0;
        while (terms.find()) {
            long term = term(terms.group(2), line, table, known);
            if (term == ERROR) {
                return ERROR;
            }
            String join = terms.group(1);
            value = join.equals("*") ? value * term : join.equals("-") ? value - term : value + term;
            if (Math.abs(value) > 999999) {
                return ERROR;
            }
        }
        known.put(name, (int) value);
        return (int) value;
    }

    private int term(String term, int line, List<Integer> table, Map<String, Integer> known) {
        char first = term.charAt(0);
        if (Character.isDigit(first)) {
            return Integer.parseInt(term);
        }
        if (first == ':') {
            int found = inherited(entryOfLine(line), term.charAt(1) - 'a');
            return found < 0 ? ERROR : found;
        }
        if (first == '(') {
            return blockValue(term.charAt(1) - 'a', known);
        }
        if (table == null) {
            return ERROR;
        }
        if (first != 'S') {
            int row = term.charAt(1) - '1';
            boolean is = row < table.size() && first - 'a' < cellsOf(text.get(table.get(row))).length;
            return is ? cellValue(table.get(row), first - 'a', known) : ERROR;
        }
        long sum = 0;
        for (int other : table) {
            int column = term.charAt(1) - 'a';
            if (other >= line || column >= cellsOf(text.get(other)).length) {
                continue;
            }
            int value = cellValue(other, column, known);
            sum += value;
            if (value == ERROR || Math.abs(sum) > 999999) {
                return ERROR;
            }
        }
        return (int) sum;
    }

    int cell(int entry, int table, int row, int column) {
        checkEntry(entry);
        List<List<Integer>> tables = new ArrayList<>();
        for (int i = heads().get(entry); i < ownEnd(entry); i++) {
            List<Integer> rows = tableOf(i);
            if (!rows.isEmpty() && rows.get(0) == i) {
                tables.add(rows);
            }
        }
        index(table >= 0 && table < tables.size());
        index(row >= 1 && row <= tables.get(table).size());
        int line = tables.get(table).get(row - 1);
        index(column >= 0 && column < cellsOf(text.get(line)).length);
        return cellValue(line, column, new HashMap<>());
    }

    int run(int letter) {
        range(letter >= 0 && letter < 26);
        List<String> lines = new ArrayList<>();
        for (String line : text) {
            if (kindOf(line) == 5 || kindOf(line) <= 1) {
                lines.add(line);
            }
        }
        if (!lines.equals(seen)) {
            kept.clear();
            seen = lines;
        }
        if (blockLine(letter) < 0) {
            return ERROR;
        }
        if (!kept.containsKey(letter)) {
            kept.put(letter, blockValue(letter, new HashMap<>()));
            runs++;
        }
        return kept.get(letter);
    }

    int runs() {
        return runs;
    }

    // ---- links, footnotes, export

    int link(int line, int place) {
        index(line >= 0 && line < text.size() && place >= 0);
        if (kindOf(text.get(line)) != 7) {
            return -1;
        }
        List<String> links = new ArrayList<>();
        Matcher link = LINK.matcher(text.get(line));
        while (link.find()) {
            links.add(link.group(1));
        }
        return place < links.size() ? titled(links.get(place)) : -1;
    }

    int renumber() {
        Map<String, Integer> digits = new LinkedHashMap<>();
        for (int i = 0; i < text.size(); i++) {
            if (kindOf(text.get(i)) != 7) {
                continue;
            }
            StringBuilder anew = new StringBuilder();
            Matcher note = NOTE.matcher(text.get(i));
            while (note.find()) {
                digits.putIfAbsent(note.group(1), digits.size() + 1);
                note.appendReplacement(anew, "^" + digits.get(note.group(1)));
            }
            text.set(i, note.appendTail(anew).toString());
        }
        return digits.size();
    }

    List<String> export() {
        List<String> out = new ArrayList<>();
        export(0, text.size(), 0, 0, out);
        return out.size() > 100 ? out.subList(0, 100) : out;
    }

    private boolean isDropped(int line, int from) {
        for (int i = entryOfLine(line); i >= 0 && heads().get(i) >= from; i = parent(i)) {
            if (stateOf(headOf(i)) == 3) {
                return true;
            }
        }
        return false;
    }

    private void export(int from, int end, int more, int deep, List<String> out) {
        for (int i = from; i < end && out.size() <= 100; i++) {
            String line = text.get(i);
            if (isDropped(i, from)) {
                continue;
            }
            switch (kindOf(line)) {
                case 0:
                    out.add("*".repeat(Math.min(5, starsOf(line) + more)) + " " + titleOf(line));
                    break;
                case 4:
                    StringBuilder row = new StringBuilder();
                    for (int j = 0; j < cellsOf(line).length; j++) {
                        int value = cellValue(i, j, new HashMap<>());
                        row.append('|').append(value == ERROR ? "#" : String.valueOf(value));
                    }
                    out.add(row.toString());
                    break;
                case 6:
                    int target = titled(line.substring(1));
                    if (deep < 3 && target >= 0 && stateOf(headOf(target)) != 3) {
                        int owner = entryOfLine(i);
                        int stars = owner < 0 ? 0 : Math.min(5, starsOf(headOf(owner)) + more);
                        export(heads().get(target), partEnd(target), stars, deep + 1, out);
                    }
                    break;
                case 7:
                    out.add(line);
                    break;
                default:
                    break;
            }
        }
    }

    int exported() {
        return export().size();
    }

    char exportedAt(int line, int place) {
        List<String> out = export();
        index(line >= 0 && line < out.size() && place >= 0);
        return place < out.get(line).length() ? out.get(line).charAt(place) : 0;
    }
}

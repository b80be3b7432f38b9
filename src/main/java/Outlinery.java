/**
 * An outliner. The text is the only truth: entries, tables, blocks and the export are read from it anew,
 * once it has changed, and all changes are made in its lines.
 */
public final class Outlinery {
    public static final int NONE = -1;
    public static final int ERROR = 1000000;
    public static final int HEADING = 0, PROPERTY = 1, DATE = 2, CLOCK = 3, ROW = 4, CODE = 5, INCLUDE = 6, TEXT = 7;
    public static final int TODO = 0, WAIT = 1, DONE = 2, DROP = 3;

    private static final int MOST_LINES = 60;
    private static final int MOST_SIGNS = 24;
    private static final int MOST_STARS = 5;
    private static final int MOST_NUMBER = 9999;
    private static final int MOST_DIGITS = 4;
    private static final int MOST_VALUE = 999999;
    private static final int MOST_PASSED = 500;
    private static final int MOST_PARTS = 5;
    private static final int MOST_EXPORTED = 100;
    private static final int MOST_DEEP = 3;
    private static final int LETTERS = 26;
    private static final int ALL_TAGS = (1 << LETTERS) - 1;
    private static final int ORDERED = 'o' - 'a';
    private static final int STATE_SIGNS = 5;

    /** "|=a1" has four signs, and can come to the eight of "|-999999": a row can double, and not more. */
    private static final int EXPORT_SIGNS = 2 * MOST_SIGNS;

    /** A line of 24 signs has at most twelve cells, "|" and a digit each, and not more terms than that. */
    private static final int MOST_CELLS = 12;
    private static final int MOST_IN_SUM = 6;

    private static final int NUMBER_TERM = 0, CELL_TERM = 1, COLUMN_TERM = 2, BLOCK_TERM = 3, PROPERTY_TERM = 4;

    private final Lines text;
    private final Lines moved;
    private final Outline outline;
    private final Sheet sheet;
    private final Export export;
    private final Kept kept;
    private final Archive store;
    private int todayIs;
    private int now;

    public Outlinery() {
        text = new Lines(MOST_LINES, MOST_SIGNS);
        moved = new Lines(MOST_LINES, MOST_SIGNS);
        Sums sums = new Sums();
        outline = new Outline(text, sums);
        sheet = new Sheet(outline, sums);
        export = new Export(outline, sheet, sums);
        kept = new Kept(outline, sheet);
        store = new Archive();
    }

    // ---- lines

    public int line(int line) throws IndexOutOfBoundsException, IllegalStateException {
        if (line < 0 || line > text.count) {
            throw new IndexOutOfBoundsException("A line is put in from 0 to the number of lines.");
        }
        checkRoom(1);
        text.open(line, 1);
        return text.count;
    }

    public int sign(int line, char sign)
            throws IndexOutOfBoundsException, IllegalArgumentException, IllegalStateException {
        checkLine(text, line);
        if (sign < 32 || sign > 126) {
            throw new IllegalArgumentException("A sign is from 32 to 126.");
        }
        if (text.size(line) >= MOST_SIGNS) {
            throw new IllegalStateException("The line has 24 signs.");
        }
        text.add(line, sign);
        return text.size(line);
    }

    public int rub(int line) throws IndexOutOfBoundsException {
        checkLine(text, line);
        int size = text.size(line);
        if (size == 0) {
            text.close(line, 1);
            return NONE;
        }
        text.takeOut(line, size - 1, 1);
        return size - 1;
    }

    public int lines() {
        return text.count;
    }

    public char signAt(int line, int place) throws IndexOutOfBoundsException {
        checkPlace(text, line, place);
        return text.at(line, place);
    }

    public int kind(int line) throws IndexOutOfBoundsException {
        checkLine(text, line);
        outline.refresh();
        return outline.reading(line).kind;
    }

    private static void checkLine(Lines lines, int line) {
        if (!lines.has(line)) {
            throw new IndexOutOfBoundsException("There is no such line.");
        }
    }

    private static void checkPlace(Lines lines, int line, int place) {
        checkLine(lines, line);
        if (place < 0) {
            throw new IndexOutOfBoundsException("A place is from 0 on.");
        }
    }

    private void checkRoom(int many) {
        if (!text.hasRoom(many)) {
            throw new IllegalStateException("There would be more than 60 lines.");
        }
    }

    // ---- entries

    public int entries() {
        outline.refresh();
        return outline.count;
    }

    public int entry(int entry, int what) throws IndexOutOfBoundsException, IllegalArgumentException {
        outline.refresh();
        checkEntry(entry);
        switch (what) {
            case 0:
                return outline.lineOf(entry);
            case 1:
                return outline.levelOf(entry);
            case 2:
                return outline.parentOf(entry);
            case 3:
                return outline.stateOf(entry);
            case 4:
                return outline.below(entry);
            case 5:
                return outline.partEnd(entry) - outline.lineOf(entry);
            case 6:
                return outline.tagsOf(entry);
            case 7:
                return outline.reading(outline.dateLine(entry)).first;
            case 8:
                return outline.rankOf(entry);
            default:
                throw new IllegalArgumentException("What is told is from 0 to 8.");
        }
    }

    public int property(int entry, int letter, boolean summed)
            throws IndexOutOfBoundsException, IllegalArgumentException {
        outline.refresh();
        checkEntry(entry);
        checkLetter(letter);
        return summed ? outline.summed(entry, letter) : outline.inherited(entry, letter);
    }

    public int shift(int entry, boolean more) throws IndexOutOfBoundsException, IllegalStateException {
        outline.refresh();
        checkEntry(entry);
        int stars = more ? 1 : -1;
        checkStars(entry, stars);
        giveStars(entry, stars, text, 0);
        outline.refresh();
        return outline.levelOf(entry);
    }

    public int refile(int entry, int to, boolean stays) throws IndexOutOfBoundsException, IllegalStateException {
        outline.refresh();
        checkEntry(entry);
        checkEntry(to);
        if (to >= entry && to <= entry + outline.below(entry)) {
            throw new IllegalStateException("An entry is not moved below itself.");
        }
        int stars = outline.levelOf(to) + 1 - outline.levelOf(entry);
        checkStars(entry, stars);
        int from = outline.lineOf(entry);
        int many = outline.partEnd(entry) - from;
        checkRoom(stays ? many : 0);
        int at = outline.partEnd(to);
        moved.close(0, moved.count);
        moved.copy(text, from, many, 0);
        giveStars(entry, stars, moved, from);
        if (!stays) {
            text.close(from, many);
            at = at > from ? at - many : at;
        }
        text.copy(moved, 0, many, at);
        outline.refresh();
        return outline.ownerOf(at);
    }

    public int state(int entry, int state)
            throws IndexOutOfBoundsException, IllegalArgumentException, IllegalStateException {
        outline.refresh();
        checkEntry(entry);
        if (state < NONE || state > DROP) {
            throw new IllegalArgumentException("A state is TODO to DROP, or NONE.");
        }
        if (state == DONE) {
            makeDone(entry);
        } else {
            putState(entry, state);
        }
        outline.refresh();
        return outline.stateOf(entry);
    }

    public int capture(int under, int title) throws IllegalArgumentException, IllegalStateException {
        checkLetter(under);
        checkLetter(title);
        outline.refresh();
        int parent = outline.titled((char) ('a' + under));
        int level = parent == NONE ? 1 : outline.levelOf(parent) + 1;
        if (level > MOST_STARS) {
            throw new IllegalStateException("A heading would have six stars.");
        }
        checkRoom(1);
        int at = outline.endUnder(parent);
        text.open(at, 1);
        for (int i = 0; i < level; i++) {
            text.add(at, '*');
        }
        text.addWord(at, " TODO ");
        text.add(at, (char) ('a' + title));
        outline.refresh();
        return outline.ownerOf(at);
    }

    public int archive(int entry) throws IndexOutOfBoundsException, IllegalStateException {
        outline.refresh();
        checkEntry(entry);
        if (store.count >= MOST_PARTS) {
            throw new IllegalStateException("Five parts are archived.");
        }
        int from = outline.lineOf(entry);
        int many = outline.partEnd(entry) - from;
        store.put(text, from, many, outline.firstSign(outline.parentOf(entry)));
        text.close(from, many);
        return store.count;
    }

    public int bringBack() throws IllegalStateException {
        if (store.count < 1) {
            throw new IllegalStateException("Nothing is archived.");
        }
        checkRoom(store.latestSize());
        outline.refresh();
        int under = outline.titled(store.latestSign());
        store.take(text, outline.endUnder(under));
        return store.count;
    }

    private void checkEntry(int entry) {
        if (!outline.has(entry)) {
            throw new IndexOutOfBoundsException("There is no such entry.");
        }
    }

    private static void checkLetter(int letter) {
        if (letter < 0 || letter >= LETTERS) {
            throw new IllegalArgumentException("A letter is from 0 to 25.");
        }
    }

    private void checkStars(int entry, int stars) {
        int end = entry + outline.below(entry);
        for (int i = entry; i <= end; i++) {
            int level = outline.levelOf(i) + stars;
            if (level < 1 || level > MOST_STARS) {
                throw new IllegalStateException("A heading would have no star, or six.");
            }
            if (text.size(outline.lineOf(i)) + stars > MOST_SIGNS) {
                throw new IllegalStateException("A line would have more than 24 signs.");
            }
        }
    }

    /** Gives the headings of a part stars, or takes them, in lines where its first one stands so much higher up. */
    private void giveStars(int entry, int stars, Lines lines, int higher) {
        int end = entry + outline.below(entry);
        for (int i = entry; i <= end; i++) {
            int line = outline.lineOf(i) - higher;
            lines.takeOut(line, 0, -stars);
            for (int j = 0; j < stars; j++) {
                lines.putIn(line, 0, '*');
            }
        }
    }

    private void makeDone(int entry) {
        if (!outline.mayBeDone(entry)) {
            throw new IllegalStateException("The entry cannot become DONE.");
        }
        int line = outline.dateLine(entry);
        Reading date = outline.reading(line);
        if (date.distance == NONE) {
            putState(entry, DONE);
            return;
        }
        int next = date.nextDay(todayIs);
        int last = next + date.last - date.first;
        if (last > MOST_NUMBER) {
            throw new IllegalStateException("A day would be above 9999.");
        }
        putState(entry, TODO);
        writeDate(line, next, last, date);
    }

    private void putState(int entry, int state) {
        int line = outline.lineOf(entry);
        int old = outline.stateOf(entry) == NONE ? 0 : STATE_SIGNS;
        String word = stateWord(state);
        if (text.size(line) - old + word.length() > MOST_SIGNS) {
            throw new IllegalStateException("A line would have more than 24 signs.");
        }
        int at = outline.levelOf(entry) + 1;
        text.takeOut(line, at, old);
        for (int i = 0; i < word.length(); i++) {
            text.putIn(line, at + i, word.charAt(i));
        }
    }

    private void writeDate(int line, int first, int last, Reading date) {
        text.clear(line);
        text.add(line, '@');
        text.addNumber(line, first);
        if (last != first) {
            text.add(line, '-');
            text.addNumber(line, last);
        }
        text.add(line, '+');
        text.addNumber(line, date.distance);
        if (date.mark != 0) {
            text.add(line, date.mark);
        }
    }

    private static String stateWord(int state) {
        switch (state) {
            case TODO:
                return "TODO ";
            case WAIT:
                return "WAIT ";
            case DONE:
                return "DONE ";
            case DROP:
                return "DROP ";
            default:
                return "";
        }
    }

    // ---- days, clocks

    public int today(int day) throws IllegalArgumentException {
        checkDay(day);
        int before = todayIs;
        todayIs = day;
        return before;
    }

    public int agenda(int day, int with, int but, int place)
            throws IndexOutOfBoundsException, IllegalArgumentException {
        if (place < 0) {
            throw new IndexOutOfBoundsException("A place is from 0 on.");
        }
        checkDay(day);
        checkTags(with);
        checkTags(but);
        outline.refresh();
        int left = place;
        for (int i = 0; i < outline.count; i++) {
            int tags = outline.tagsOf(i);
            if ((tags & with) != with || (tags & but) != 0 || !outline.isOn(i, day)) {
                continue;
            }
            if (left == 0) {
                return i;
            }
            left--;
        }
        return NONE;
    }

    public int pass(int time) throws IllegalArgumentException, IllegalStateException {
        if (time < 1 || time > MOST_PASSED) {
            throw new IllegalArgumentException("The time that goes by is from 1 to 500.");
        }
        if (now + time > MOST_NUMBER) {
            throw new IllegalStateException("It would be later than 9999.");
        }
        now += time;
        return now;
    }

    public int clockIn(int entry) throws IndexOutOfBoundsException, IllegalStateException {
        outline.refresh();
        checkEntry(entry);
        checkRoom(1);
        int at = outline.lineOf(entry) + 1;
        int ended = endClocks(now);
        text.open(at, 1);
        text.add(at, '%');
        text.addNumber(at, now);
        text.add(at, '-');
        return ended;
    }

    public int clockOut(int idle) throws IllegalArgumentException {
        if (idle < 0 || idle > MOST_NUMBER) {
            throw new IllegalArgumentException("An idle time is from 0 to 9999.");
        }
        outline.refresh();
        return endClocks(now - idle);
    }

    public int clocked(int entry) throws IndexOutOfBoundsException {
        outline.refresh();
        checkEntry(entry);
        int sum = 0;
        int end = outline.partEnd(entry);
        for (int i = outline.lineOf(entry); i < end; i++) {
            Reading clock = outline.reading(i);
            if (clock.kind == CLOCK && clock.last != NONE) {
                sum += clock.last - clock.first;
            }
        }
        return sum;
    }

    private static void checkDay(int day) {
        if (day < 0 || day > MOST_NUMBER) {
            throw new IllegalArgumentException("A day is from 0 to 9999.");
        }
    }

    private static void checkTags(int tags) {
        if (tags < 0 || tags > ALL_TAGS) {
            throw new IllegalArgumentException("A set of tags is from 0 to 2^26 - 1.");
        }
    }

    private int endClocks(int time) {
        int ended = 0;
        for (int i = 0; i < text.count; i++) {
            Reading clock = outline.reading(i);
            if (clock.kind == CLOCK && clock.last == NONE) {
                text.addNumber(i, Math.max(clock.first, time));
                ended++;
            }
        }
        return ended;
    }

    // ---- tables, code

    public int cell(int entry, int table, int row, int column) throws IndexOutOfBoundsException {
        outline.refresh();
        checkEntry(entry);
        sheet.refresh();
        int line = sheet.rowLine(sheet.tableLine(entry, table), row);
        if (!sheet.hasCell(line, column)) {
            throw new IndexOutOfBoundsException("There is no such table or cell.");
        }
        return sheet.valueAt(line, column);
    }

    public int run(int letter) throws IllegalArgumentException {
        checkLetter(letter);
        outline.refresh();
        kept.refresh();
        sheet.refresh();
        return kept.found(letter);
    }

    public int runs() {
        return kept.count;
    }

    // ---- links, footnotes, export

    public int link(int line, int place) throws IndexOutOfBoundsException {
        checkPlace(text, line, place);
        outline.refresh();
        if (outline.reading(line).kind != TEXT) {
            return NONE;
        }
        int left = place;
        for (int i = 0; i + 2 < text.size(line); i++) {
            char letter = text.at(line, i + 1);
            boolean leads = text.at(line, i) == '[' && text.at(line, i + 2) == ']' && letter >= 'a' && letter <= 'z';
            if (leads && left == 0) {
                return outline.titled(letter);
            }
            left -= leads ? 1 : 0;
        }
        return NONE;
    }

    public int renumber() {
        outline.refresh();
        int[] given = new int[10];
        int unlike = 0;
        for (int i = 0; i < text.count; i++) {
            if (outline.reading(i).kind != TEXT) {
                continue;
            }
            for (int j = 1; j < text.size(i); j++) {
                int digit = text.at(i, j) - '0';
                if (text.at(i, j - 1) != '^' || digit < 1 || digit > 9) {
                    continue;
                }
                if (given[digit] == 0) {
                    unlike++;
                    given[digit] = unlike;
                }
                text.set(i, j, (char) ('0' + given[digit]));
            }
        }
        return unlike;
    }

    public int exported() {
        outline.refresh();
        sheet.refresh();
        export.refresh();
        return export.out.count;
    }

    public char exportedAt(int line, int place) throws IndexOutOfBoundsException {
        outline.refresh();
        sheet.refresh();
        export.refresh();
        checkPlace(export.out, line, place);
        return export.out.at(line, place);
    }

    /** Rows of signs in one array, so that lines come and go without new objects. */
    private static final class Lines {
        private final int most;
        private final int width;
        private final char[] signs;
        private final int[] sizes;
        private int count;
        private int version;

        private Lines(int most, int width) {
            this.most = most;
            this.width = width;
            signs = new char[most * width];
            sizes = new int[most];
        }

        private boolean has(int line) {
            return line >= 0 && line < count;
        }

        private boolean hasRoom(int many) {
            return many <= most - count;
        }

        private int size(int line) {
            return line >= 0 && line < count ? sizes[line] : 0;
        }

        private char at(int line, int place) {
            if (line < 0 || line >= count || place < 0 || place >= sizes[line]) {
                return 0;
            }
            return signs[line * width + place];
        }

        private void open(int at, int many) {
            if (at < 0 || at > count || many < 1 || many > most - count) {
                return;
            }
            System.arraycopy(signs, at * width, signs, (at + many) * width, (count - at) * width);
            System.arraycopy(sizes, at, sizes, at + many, count - at);
            for (int i = at; i < at + many; i++) {
                sizes[i] = 0;
            }
            count += many;
            version++;
        }

        private void close(int from, int many) {
            if (from < 0 || many < 1 || many > count - from) {
                return;
            }
            int end = from + many;
            System.arraycopy(signs, end * width, signs, from * width, (count - end) * width);
            System.arraycopy(sizes, end, sizes, from, count - end);
            count -= many;
            version++;
        }

        private void copy(Lines other, int from, int many, int at) {
            boolean canTake = from >= 0 && many > 0 && many <= other.count - from && other.width == width;
            boolean canPut = at >= 0 && at <= count && many <= most - count;
            if (!canTake || !canPut || other == this) {
                return;
            }
            open(at, many);
            System.arraycopy(other.signs, from * width, signs, at * width, many * width);
            System.arraycopy(other.sizes, from, sizes, at, many);
        }

        private boolean isLike(int line, Lines other, int otherLine) {
            if (size(line) != other.size(otherLine)) {
                return false;
            }
            for (int i = 0; i < size(line); i++) {
                if (at(line, i) != other.at(otherLine, i)) {
                    return false;
                }
            }
            return true;
        }

        private void clear(int line) {
            takeOut(line, 0, size(line));
        }

        private void add(int line, char sign) {
            if (line < 0 || line >= count || sizes[line] >= width) {
                return;
            }
            signs[line * width + sizes[line]] = sign;
            sizes[line]++;
            version++;
        }

        private void addWord(int line, String word) {
            for (int i = 0; i < word.length(); i++) {
                add(line, word.charAt(i));
            }
        }

        private void addNumber(int line, int number) {
            if (number < 0) {
                add(line, '-');
            }
            int rest = Math.abs(number);
            for (int unit = 1000000; unit > 0; unit /= 10) {
                if (rest >= unit || unit == 1) {
                    add(line, (char) ('0' + rest / unit % 10));
                }
            }
        }

        private void set(int line, int place, char sign) {
            if (line < 0 || line >= count || place < 0 || place >= sizes[line]) {
                return;
            }
            signs[line * width + place] = sign;
            version++;
        }

        private void putIn(int line, int place, char sign) {
            if (line < 0 || line >= count || place < 0 || place > sizes[line] || sizes[line] >= width) {
                return;
            }
            int start = line * width + place;
            System.arraycopy(signs, start, signs, start + 1, sizes[line] - place);
            signs[start] = sign;
            sizes[line]++;
            version++;
        }

        private void takeOut(int line, int place, int many) {
            if (line < 0 || line >= count || place < 0 || many < 1 || many > sizes[line] - place) {
                return;
            }
            int start = line * width + place;
            System.arraycopy(signs, start + many, signs, start, sizes[line] - place - many);
            sizes[line] -= many;
            version++;
        }
    }

    /** What one line tells; of the fields, those of its kind count. */
    private static final class Reading {
        private int kind;
        private int letter;
        private int number;
        private int first;
        private int last;
        private int distance;
        private char mark;
        private int level;
        private int state;
        private int titleFrom;
        private int titleEnd;
        private int tags;

        private Reading() {
            kind = TEXT;
            first = NONE;
            last = NONE;
            distance = NONE;
            state = NONE;
        }

        private void forget() {
            kind = TEXT;
            letter = 0;
            number = 0;
            first = NONE;
            last = NONE;
            distance = NONE;
            mark = 0;
            level = 0;
            state = NONE;
            titleFrom = 0;
            titleEnd = 0;
            tags = 0;
        }

        private boolean isDayOf(int day) {
            int since = day - first;
            if (first == NONE || since < 0) {
                return false;
            }
            return (distance < 1 ? since : since % distance) <= last - first;
        }

        private int nextDay(int today) {
            if (mark == '.') {
                return today + distance;
            }
            if (mark == '+' && distance > 0 && today >= first) {
                return first + distance * ((today - first) / distance + 1);
            }
            return first + distance;
        }
    }

    /** Reads lines, sign by sign. */
    private static final class Reader {
        private final Lines text;
        private final Sums sums;
        private final char[] signs = new char[MOST_SIGNS];
        private int current;
        private int size;
        private int place;

        private Reader(Lines text, Sums sums) {
            this.text = text;
            this.sums = sums;
        }

        private void read(int line, Reading reading) {
            begin(line);
            reading.forget();
            boolean taken = false;
            switch (peek()) {
                case '*':
                    reading.kind = HEADING;
                    taken = takeHeading(reading);
                    break;
                case ':':
                    reading.kind = PROPERTY;
                    taken = takeProperty(reading);
                    break;
                case '@':
                    reading.kind = DATE;
                    taken = takeDate(reading);
                    break;
                case '%':
                    reading.kind = CLOCK;
                    taken = takeClock(reading);
                    break;
                case '|':
                    reading.kind = ROW;
                    taken = takeRow();
                    break;
                case '{':
                    reading.kind = CODE;
                    taken = takeCode(reading);
                    break;
                case '!':
                    reading.kind = INCLUDE;
                    taken = takeInclude(reading);
                    break;
                default:
                    break;
            }
            if (!taken || place != size) {
                reading.kind = TEXT;
                sums.forget(line);
            }
        }

        private void begin(int line) {
            current = line;
            size = Math.min(text.size(line), MOST_SIGNS);
            place = 0;
            for (int i = 0; i < size; i++) {
                signs[i] = text.at(line, i);
            }
            sums.forget(line);
        }

        private char peek() {
            return place >= 0 && place < size ? signs[place] : 0;
        }

        private boolean take(char sign) {
            if (place < 0 || place >= size || signs[place] != sign) {
                return false;
            }
            place++;
            return true;
        }

        private int takeLetter(char last) {
            if (place < 0 || place >= size || signs[place] < 'a' || signs[place] > last) {
                return NONE;
            }
            place++;
            return signs[place - 1] - 'a';
        }

        private int takeDigit(char first) {
            if (place < 0 || place >= size || signs[place] < first || signs[place] > '9') {
                return NONE;
            }
            place++;
            return signs[place - 1] - '0';
        }

        /** A number that begins with 0 has no other digits. */
        private int takeNumber() {
            int number = NONE;
            for (int i = 0; i < MOST_DIGITS && number != 0 && place >= 0 && place < size; i++) {
                if (signs[place] < '0' || signs[place] > '9') {
                    break;
                }
                number = Math.max(0, number) * 10 + signs[place] - '0';
                place++;
            }
            return number;
        }

        private boolean takeHeading(Reading reading) {
            while (reading.level <= MOST_STARS && take('*')) {
                reading.level++;
            }
            if (reading.level > MOST_STARS || !take(' ')) {
                return false;
            }
            reading.state = takeState();
            reading.titleFrom = place;
            reading.titleEnd = size;
            takeTags(reading);
            place = size;
            return true;
        }

        private int takeState() {
            for (int state = TODO; state <= DROP; state++) {
                if (takeWord(stateWord(state))) {
                    return state;
                }
            }
            return NONE;
        }

        private boolean takeWord(String word) {
            int start = place;
            for (int i = 0; i < word.length(); i++) {
                if (!take(word.charAt(i))) {
                    place = start;
                    return false;
                }
            }
            return true;
        }

        /** Tags have no blanks in them: the one ahead of them can only be the last one. */
        private void takeTags(Reading reading) {
            int blank = NONE;
            for (int i = reading.titleFrom; i < size; i++) {
                blank = signs[i] == ' ' ? i : blank;
            }
            if (blank == NONE) {
                return;
            }
            place = blank + 1;
            int tags = takeTagLetters();
            if (tags != 0 && place == size) {
                reading.tags = tags;
                reading.titleEnd = blank;
            }
        }

        private int takeTagLetters() {
            int tags = 0;
            if (!take(':')) {
                return 0;
            }
            for (int i = 0; i < MOST_SIGNS && place < size; i++) {
                int letter = takeLetter('z');
                if (letter == NONE || !take(':')) {
                    return 0;
                }
                tags |= 1 << letter;
            }
            return tags;
        }

        private boolean takeProperty(Reading reading) {
            place++;
            reading.letter = takeLetter('z');
            if (reading.letter == NONE || !take(':')) {
                return false;
            }
            reading.number = takeNumber();
            return reading.number != NONE;
        }

        private boolean takeDate(Reading reading) {
            place++;
            reading.first = takeNumber();
            reading.last = take('-') ? takeNumber() : reading.first;
            if (reading.first == NONE || reading.last < reading.first) {
                return false;
            }
            if (!take('+')) {
                return true;
            }
            reading.distance = takeNumber();
            if (peek() == '+' || peek() == '.') {
                reading.mark = peek();
                place++;
            }
            return reading.distance > 0;
        }

        private boolean takeClock(Reading reading) {
            place++;
            reading.first = takeNumber();
            if (reading.first == NONE || !take('-')) {
                return false;
            }
            if (place == size) {
                return true;
            }
            reading.last = takeNumber();
            return reading.last >= reading.first;
        }

        private boolean takeRow() {
            for (int i = 0; i < MOST_CELLS && take('|'); i++) {
                boolean taken = take('=') ? takeSum() : takeValue();
                if (!taken) {
                    return false;
                }
                sums.endCell(current);
            }
            return true;
        }

        private boolean takeValue() {
            char join = take('-') ? '-' : '+';
            int number = takeNumber();
            sums.addTerm(current, join, NUMBER_TERM, 0, number);
            return number != NONE;
        }

        private boolean takeCode(Reading reading) {
            place++;
            reading.letter = takeLetter('z');
            if (reading.letter == NONE || !take('}') || !takeSum()) {
                return false;
            }
            sums.endCell(current);
            return true;
        }

        private boolean takeInclude(Reading reading) {
            place++;
            reading.letter = takeLetter('z');
            return reading.letter != NONE;
        }

        private boolean takeSum() {
            char join = '+';
            for (int i = 0; i < MOST_IN_SUM; i++) {
                if (!takeTerm(join)) {
                    return false;
                }
                join = peek();
                if (join != '+' && join != '-' && join != '*') {
                    return true;
                }
                place++;
            }
            return false;
        }

        private boolean takeTerm(char join) {
            int kind = NUMBER_TERM;
            int letter = 0;
            int number = 0;
            if (take('S')) {
                kind = COLUMN_TERM;
                letter = takeLetter('e');
            } else if (take('(')) {
                kind = BLOCK_TERM;
                letter = takeLetter('z');
                number = take(')') ? 0 : NONE;
            } else if (take(':')) {
                kind = PROPERTY_TERM;
                letter = takeLetter('z');
            } else if (peek() >= 'a') {
                kind = CELL_TERM;
                letter = takeLetter('e');
                number = takeDigit('1');
            } else {
                number = takeNumber();
            }
            sums.addTerm(current, join, kind, letter, number);
            return letter != NONE && number != NONE;
        }
    }

    /** The cells of rows, and the sums of code as if each were a row of one cell: terms, each with its join. */
    private static final class Sums {
        private final int[] cells = new int[MOST_LINES];
        private final int[] terms = new int[MOST_LINES];
        private final int[] ends = new int[MOST_LINES * MOST_CELLS];
        private final char[] joins = new char[MOST_LINES * MOST_CELLS];
        private final int[] kinds = new int[MOST_LINES * MOST_CELLS];
        private final int[] letters = new int[MOST_LINES * MOST_CELLS];
        private final int[] numbers = new int[MOST_LINES * MOST_CELLS];

        private void forget(int line) {
            if (line >= 0 && line < MOST_LINES) {
                cells[line] = 0;
                terms[line] = 0;
            }
        }

        private int cellsOf(int line) {
            return line >= 0 && line < MOST_LINES ? cells[line] : 0;
        }

        private void addTerm(int line, char join, int kind, int letter, int number) {
            if (line < 0 || line >= MOST_LINES || terms[line] >= MOST_CELLS) {
                return;
            }
            int at = line * MOST_CELLS + terms[line];
            joins[at] = join;
            kinds[at] = kind;
            letters[at] = letter;
            numbers[at] = number;
            terms[line]++;
        }

        private char joinOf(int term) {
            return term >= 0 && term < joins.length ? joins[term] : 0;
        }

        private void endCell(int line) {
            if (line < 0 || line >= MOST_LINES || cells[line] >= MOST_CELLS) {
                return;
            }
            ends[line * MOST_CELLS + cells[line]] = line * MOST_CELLS + terms[line];
            cells[line]++;
        }

        /** The first term of a cell of a line, the one behind the last term of the cell ahead of it. */
        private int from(int cell) {
            return cell % MOST_CELLS == 0 ? cell : end(cell - 1);
        }

        private int end(int cell) {
            return cell >= 0 && cell < ends.length ? ends[cell] : 0;
        }
    }

    /** The tree of entries, as the lines tell it. */
    private static final class Outline {
        private final Lines text;
        private final Reader reader;
        private final Reading nothing;
        private final Reading[] readings = new Reading[MOST_LINES];
        private final int[] owners = new int[MOST_LINES];
        private final int[] heads = new int[MOST_LINES];
        private final int[] levels = new int[MOST_LINES];
        private final int[] parents = new int[MOST_LINES];
        private final int[] tags = new int[MOST_LINES];
        private int count;
        private int version = NONE;

        private Outline(Lines text, Sums sums) {
            this.text = text;
            reader = new Reader(text, sums);
            nothing = new Reading();
            for (int i = 0; i < MOST_LINES; i++) {
                readings[i] = new Reading();
            }
        }

        private void refresh() {
            if (version == text.version) {
                return;
            }
            version = text.version;
            count = 0;
            for (int i = 0; i < text.count && i < MOST_LINES; i++) {
                reader.read(i, readings[i]);
                if (readings[i].kind == HEADING) {
                    addEntry(i);
                }
                owners[i] = count - 1;
            }
        }

        private void addEntry(int line) {
            int entry = count;
            if (entry >= MOST_LINES) {
                return;
            }
            heads[entry] = line;
            levels[entry] = reading(line).level;
            count++;
            int parent = entry - 1;
            while (parent >= 0 && levelOf(parent) >= levelOf(entry)) {
                parent--;
            }
            parents[entry] = parent >= 0 ? parent : NONE;
            tags[entry] = reading(line).tags | tagsOf(parent);
        }

        private boolean has(int entry) {
            return entry >= 0 && entry < count;
        }

        private Reading reading(int line) {
            if (line < 0 || line >= text.count || line >= MOST_LINES) {
                return nothing;
            }
            return readings[line];
        }

        private int ownerOf(int line) {
            return line >= 0 && line < text.count && line < MOST_LINES ? owners[line] : NONE;
        }

        private int lineOf(int entry) {
            return entry >= 0 && entry < count ? heads[entry] : NONE;
        }

        private int parentOf(int entry) {
            return entry >= 0 && entry < count ? parents[entry] : NONE;
        }

        private int tagsOf(int entry) {
            return entry >= 0 && entry < count ? tags[entry] : 0;
        }

        private int levelOf(int entry) {
            return entry >= 0 && entry < count ? levels[entry] : 0;
        }

        private int stateOf(int entry) {
            return reading(lineOf(entry)).state;
        }

        private boolean isOpen(int entry) {
            int state = stateOf(entry);
            return state == TODO || state == WAIT;
        }

        private char firstSign(int entry) {
            Reading head = reading(lineOf(entry));
            return head.titleFrom < head.titleEnd ? text.at(lineOf(entry), head.titleFrom) : 0;
        }

        /** The first entry whose title begins with a sign; 0, the sign of no title, begins none. */
        private int titled(char sign) {
            for (int i = 0; i < count && sign != 0; i++) {
                if (firstSign(i) == sign) {
                    return i;
                }
            }
            return NONE;
        }

        private int below(int entry) {
            int level = levelOf(entry);
            int next = entry + 1;
            while (next < count && levelOf(next) > level) {
                next++;
            }
            return next - entry - 1;
        }

        private int rankOf(int entry) {
            int rank = 1;
            for (int i = 0; i < entry; i++) {
                rank += parentOf(i) == parentOf(entry) ? 1 : 0;
            }
            return rank;
        }

        private int ownEnd(int entry) {
            int next = entry + 1;
            return next >= 0 && next < count ? heads[next] : text.count;
        }

        private int partEnd(int entry) {
            return ownEnd(entry + below(entry));
        }

        /** Where a line is put in that is to come at the end of the part of an entry, or of the text. */
        private int endUnder(int entry) {
            return entry == NONE ? text.count : partEnd(entry);
        }

        private int own(int entry, int letter) {
            int end = ownEnd(entry);
            for (int i = lineOf(entry) + 1; i < end; i++) {
                Reading reading = reading(i);
                if (reading.kind == PROPERTY && reading.letter == letter) {
                    return reading.number;
                }
            }
            return NONE;
        }

        private int inherited(int entry, int letter) {
            int holder = entry;
            for (int i = 0; i < MOST_STARS && holder != NONE; i++) {
                int number = own(holder, letter);
                if (number != NONE) {
                    return number;
                }
                holder = parentOf(holder);
            }
            return NONE;
        }

        private int summed(int entry, int letter) {
            int sum = 0;
            int end = entry + below(entry);
            for (int i = entry; i <= end; i++) {
                sum += Math.max(0, own(i, letter));
            }
            return sum;
        }

        private int dateLine(int entry) {
            int end = ownEnd(entry);
            for (int i = lineOf(entry) + 1; i < end; i++) {
                if (reading(i).kind == DATE) {
                    return i;
                }
            }
            return NONE;
        }

        private boolean isOn(int entry, int day) {
            int state = stateOf(entry);
            return state != DONE && state != DROP && reading(dateLine(entry)).isDayOf(day);
        }

        private boolean mayBeDone(int entry) {
            int end = entry + below(entry);
            for (int i = entry + 1; i <= end; i++) {
                if (isOpen(i)) {
                    return false;
                }
            }
            int parent = parentOf(entry);
            if (inherited(parent, ORDERED) != 1) {
                return true;
            }
            for (int i = parent + 1; i < entry; i++) {
                if (parentOf(i) == parent && isOpen(i)) {
                    return false;
                }
            }
            return true;
        }
    }

    /** What cells and blocks come to. */
    private static final class Sheet {
        /** Stands for what is not found yet; what stays so needs itself. */
        private static final int OPEN = ERROR + 1;

        private final Outline outline;
        private final Sums sums;
        private final int[] values = new int[MOST_LINES * MOST_CELLS];
        private final int[] tops = new int[MOST_LINES];
        private final int[] blocks = new int[LETTERS];
        private int version = NONE;

        private Sheet(Outline outline, Sums sums) {
            this.outline = outline;
            this.sums = sums;
        }

        private void refresh() {
            if (version == outline.version) {
                return;
            }
            version = outline.version;
            findBlocks();
            findTops();
            openCells();
            boolean goesOn = true;
            for (int i = 0; i < values.length && goesOn; i++) {
                goesOn = false;
                for (int j = 0; j < values.length; j++) {
                    if (values[j] == OPEN) {
                        values[j] = sumOf(j);
                        goesOn = goesOn || values[j] != OPEN;
                    }
                }
            }
            for (int i = 0; i < values.length; i++) {
                values[i] = values[i] == OPEN ? ERROR : values[i];
            }
        }

        private void openCells() {
            for (int i = 0; i < values.length; i++) {
                int line = i / MOST_CELLS;
                boolean is = line < outline.text.count && i % MOST_CELLS < sums.cellsOf(line);
                values[i] = is ? OPEN : ERROR;
            }
        }

        private void findBlocks() {
            for (int i = 0; i < LETTERS; i++) {
                blocks[i] = NONE;
            }
            for (int i = outline.text.count - 1; i >= 0; i--) {
                Reading reading = outline.reading(i);
                if (reading.kind == CODE && reading.letter >= 0 && reading.letter < LETTERS) {
                    blocks[reading.letter] = i;
                }
            }
        }

        private void findTops() {
            int top = NONE;
            for (int i = 0; i < MOST_LINES; i++) {
                if (outline.reading(i).kind != ROW) {
                    top = NONE;
                } else if (top == NONE) {
                    top = i;
                }
                tops[i] = top;
            }
        }

        private int sumOf(int cell) {
            int line = cell / MOST_CELLS;
            int end = sums.end(cell);
            int value = 0;
            for (int i = sums.from(cell); i < end && value != ERROR; i++) {
                int term = termOf(line, i);
                if (term == OPEN || term == ERROR) {
                    return term;
                }
                value = joined(value, sums.joinOf(i), term);
            }
            return value;
        }

        private int termOf(int line, int term) {
            if (term < 0 || term >= values.length) {
                return ERROR;
            }
            int letter = sums.letters[term];
            int number = sums.numbers[term];
            switch (sums.kinds[term]) {
                case NUMBER_TERM:
                    return number;
                case CELL_TERM:
                    return valueAt(rowLine(topOf(line), number), letter);
                case COLUMN_TERM:
                    return columnOf(line, letter);
                case BLOCK_TERM:
                    return valueAt(blockLine(letter), 0);
                default:
                    int found = outline.inherited(outline.ownerOf(line), letter);
                    return found == NONE ? ERROR : found;
            }
        }

        private static int joined(int value, char join, int term) {
            long found = value;
            if (join == '+') {
                found += term;
            } else if (join == '-') {
                found -= term;
            } else {
                found *= term;
            }
            return found < -MOST_VALUE || found > MOST_VALUE ? ERROR : (int) found;
        }

        private int columnOf(int line, int column) {
            int top = topOf(line);
            if (top == NONE) {
                return ERROR;
            }
            int sum = 0;
            for (int i = top; i < line && sum != ERROR; i++) {
                if (!hasCell(i, column)) {
                    continue;
                }
                int value = valueAt(i, column);
                if (value == OPEN || value == ERROR) {
                    return value;
                }
                sum = joined(sum, '+', value);
            }
            return sum;
        }

        private int topOf(int line) {
            return line >= 0 && line < MOST_LINES ? tops[line] : NONE;
        }

        private int blockLine(int letter) {
            return letter >= 0 && letter < LETTERS ? blocks[letter] : NONE;
        }

        private int tableLine(int entry, int table) {
            int left = table;
            int end = outline.ownEnd(entry);
            for (int i = outline.lineOf(entry); i < end; i++) {
                boolean begins = i >= 0 && topOf(i) == i;
                if (begins && left == 0) {
                    return i;
                }
                left -= begins ? 1 : 0;
            }
            return NONE;
        }

        private int rowLine(int top, int row) {
            if (top == NONE || row < 1 || row > MOST_LINES) {
                return NONE;
            }
            int line = top + row - 1;
            return topOf(line) == top ? line : NONE;
        }

        private boolean hasCell(int line, int column) {
            return column >= 0 && column < sums.cellsOf(line);
        }

        private int valueAt(int line, int column) {
            if (line < 0 || line >= MOST_LINES || column < 0 || column >= MOST_CELLS) {
                return ERROR;
            }
            return values[line * MOST_CELLS + column];
        }
    }

    /** The text as it is exported. */
    private static final class Export {
        private final Outline outline;
        private final Sheet sheet;
        private final Sums sums;
        private final Lines out;
        private int version = NONE;

        private Export(Outline outline, Sheet sheet, Sums sums) {
            this.outline = outline;
            this.sheet = sheet;
            this.sums = sums;
            out = new Lines(MOST_EXPORTED, EXPORT_SIGNS);
        }

        private void refresh() {
            if (version == outline.version) {
                return;
            }
            version = outline.version;
            out.close(0, out.count);
            put(0, outline.text.count, 0, 0);
        }

        /** Puts lines, from the first one to the one ahead of the end, with more stars, so many includes deep. */
        private void put(int from, int end, int more, int deep) {
            int goesOn = from;
            for (int i = from; i < end && out.hasRoom(1); i++) {
                if (i < goesOn) {
                    continue;
                }
                Reading reading = outline.reading(i);
                if (reading.kind == HEADING && reading.state == DROP) {
                    goesOn = outline.partEnd(outline.ownerOf(i));
                } else if (reading.kind == INCLUDE && deep < MOST_DEEP) {
                    putInclude(i, more, deep);
                } else {
                    putLine(i, reading, more);
                }
            }
        }

        private void putInclude(int line, int more, int deep) {
            int target = outline.titled((char) ('a' + outline.reading(line).letter));
            if (target == NONE || outline.stateOf(target) == DROP) {
                return;
            }
            int owner = outline.ownerOf(line);
            int stars = owner == NONE ? 0 : Math.min(MOST_STARS, outline.levelOf(owner) + more);
            put(outline.lineOf(target), outline.partEnd(target), stars, deep + 1);
        }

        private void putLine(int line, Reading reading, int more) {
            int at = out.count;
            if (reading.kind != HEADING && reading.kind != ROW && reading.kind != TEXT) {
                return;
            }
            out.open(at, 1);
            if (reading.kind == HEADING) {
                putStars(at, Math.min(MOST_STARS, reading.level + more));
                putSigns(at, line, reading.titleFrom, reading.titleEnd);
            } else if (reading.kind == ROW) {
                putCells(at, line);
            } else {
                putSigns(at, line, 0, outline.text.size(line));
            }
        }

        private void putStars(int at, int stars) {
            for (int i = 0; i < stars; i++) {
                out.add(at, '*');
            }
            out.add(at, ' ');
        }

        private void putSigns(int at, int line, int from, int end) {
            for (int i = from; i < end; i++) {
                out.add(at, outline.text.at(line, i));
            }
        }

        private void putCells(int at, int line) {
            for (int i = 0; i < sums.cellsOf(line); i++) {
                int value = sheet.valueAt(line, i);
                out.add(at, '|');
                if (value == ERROR) {
                    out.add(at, '#');
                } else {
                    out.addNumber(at, value);
                }
            }
        }
    }

    /** What run() has found, as long as the lines on which it rests are as they were. */
    private static final class Kept {
        private final Outline outline;
        private final Sheet sheet;
        private final Lines seen;
        private final boolean[] has = new boolean[LETTERS];
        private final int[] values = new int[LETTERS];
        private int count;

        private Kept(Outline outline, Sheet sheet) {
            this.outline = outline;
            this.sheet = sheet;
            seen = new Lines(MOST_LINES, MOST_SIGNS);
        }

        private void refresh() {
            if (isAsSeen()) {
                return;
            }
            for (int i = 0; i < LETTERS; i++) {
                has[i] = false;
            }
            seen.close(0, seen.count);
            for (int i = 0; i < outline.text.count; i++) {
                if (counts(i)) {
                    seen.copy(outline.text, i, 1, seen.count);
                }
            }
        }

        private boolean counts(int line) {
            int kind = outline.reading(line).kind;
            return kind == CODE || kind == PROPERTY || kind == HEADING;
        }

        private boolean isAsSeen() {
            int next = 0;
            for (int i = 0; i < outline.text.count; i++) {
                if (!counts(i)) {
                    continue;
                }
                if (!seen.has(next) || !seen.isLike(next, outline.text, i)) {
                    return false;
                }
                next++;
            }
            return next == seen.count;
        }

        private int found(int letter) {
            int line = sheet.blockLine(letter);
            if (line == NONE || letter < 0 || letter >= LETTERS) {
                return ERROR;
            }
            if (!has[letter]) {
                has[letter] = true;
                values[letter] = sheet.valueAt(line, 0);
                count++;
            }
            return values[letter];
        }
    }

    /** Parts that are archived, one on the other. */
    private static final class Archive {
        private final Lines parts = new Lines(MOST_PARTS * MOST_LINES, MOST_SIGNS);
        private final int[] sizes = new int[MOST_PARTS];
        private final char[] signs = new char[MOST_PARTS];
        private int count;

        private void put(Lines text, int from, int many, char sign) {
            if (count < 0 || count >= MOST_PARTS) {
                return;
            }
            parts.copy(text, from, many, parts.count);
            sizes[count] = many;
            signs[count] = sign;
            count++;
        }

        private void take(Lines text, int at) {
            int many = latestSize();
            int from = parts.count - many;
            text.copy(parts, from, many, at);
            parts.close(from, many);
            count--;
        }

        private int latestSize() {
            return count > 0 && count <= MOST_PARTS ? sizes[count - 1] : 0;
        }

        private char latestSign() {
            return count > 0 && count <= MOST_PARTS ? signs[count - 1] : 0;
        }
    }
}

/** The edges of promises 1 to 7, and of what the document says of the text: a test for each sentence that names one. */
public final class EdgeLinesTest {
    private static final Checks is = new Checks("EdgeLinesTest");
    private static final String FULL = "abcdefghijklmnopqrstuvwx";
    private static final int MIN = Integer.MIN_VALUE;
    private static final int MAX = Integer.MAX_VALUE;
    private static final int A = 1, B = 2, C = 4, Z = 1 << 25;

    /** One line of each kind to which nothing can be added: a sign ahead or behind makes TEXT of it. */
    private static final String[] WHOLE = {":a:1234", "@5", "@5-6", "@5+7", "@5-6+7+", "@5-6+7.", "%5-6", "|1", "|-1", "|=1",
        "|=a1", "|=Sa", "|=(a)", "|=:a", "{a}1", "{a}(b)", "!a"};

    public static void main(String[] args) {
        aTextWithoutLines();
        constants();
        callsUpTo512();
        linesUpTo60();
        lineAheadOfWhich();
        lineWithoutSigns();
        lineOfTooMany();
        lineThrowsFirst();
        signsFrom32To126();
        signsUpTo24();
        signOfNoLine();
        signThrowsFirst();
        rubOfTheLastSign();
        rubOfALineWithoutSigns();
        rubOfNoLine();
        linesAreCounted();
        signAtTheFirstOne();
        signAtBehindTheLastOne();
        signAtNoPlace();
        kindOfNoLine();
        kindOfEachLine();
        linesAsAWhole();
        linesThatGrow();
        linesThatLoseWhatTheyHad();
        numbersHaveOneToFourDigits();
        headingsHaveOneToFiveStars();
        headingsHaveABlank();
        statesAreFour();
        statesHaveABlank();
        titlesMayBeWithoutSigns();
        tagsHaveALetter();
        tagsAreAtTheEnd();
        asManyTagsAsCanBe();
        blankOfTags();
        propertiesHaveALetter();
        lastDaysAreNotLess();
        distancesAreFromOneOn();
        marksAreBehindADistance();
        clocksEndNotLess();
        clocksMayRun();
        rowsHaveAtLeastOneCell();
        cellsAreOneOfThree();
        sumsHaveOneToSixTerms();
        termsAreJoinedByThreeSigns();
        termsAreOneOfFive();
        codeHasALetterAndASum();
        includesHaveALetter();
        textIsOtherwise();
        is.end();
    }

    // ---- a new object

    private static void aTextWithoutLines() {
        is.promise(1, "A text without lines");
        Outlinery x = new Outlinery();
        is.due("lines", 0, x::lines);
        is.due("entries", 0, x::entries);
        is.due("exported", 0, x::exported);
        is.due("renumber", 0, x::renumber);
        is.due("runs", 0, x::runs);
        is.due("run(0)", 1000000, () -> x.run(0));
        is.due("runs then", 0, x::runs);
        is.noSuch("sign(0, 'a')", () -> x.sign(0, 'a'));
        is.noSuch("rub(0)", () -> x.rub(0));
        is.noSuch("signAt(0, 0)", () -> x.signAt(0, 0));
        is.noSuch("kind(0)", () -> x.kind(0));
        is.noSuch("link(0, 0)", () -> x.link(0, 0));
        is.noSuch("exportedAt(0, 0)", () -> x.exportedAt(0, 0));
        is.noSuch("entry(0, 0)", () -> x.entry(0, 0));
        is.noSuch("property(0, 0, true)", () -> x.property(0, 0, true));
        is.noSuch("shift(0, true)", () -> x.shift(0, true));
        is.noSuch("refile(0, 0, true)", () -> x.refile(0, 0, true));
        is.noSuch("state(0, 0)", () -> x.state(0, 0));
        is.noSuch("archive(0)", () -> x.archive(0));
        is.cannot("bringBack()", x::bringBack);
        is.noSuch("clockIn(0)", () -> x.clockIn(0));
        is.due("clockOut(0)", 0, () -> x.clockOut(0));
        is.noSuch("clocked(0)", () -> x.clocked(0));
        is.noSuch("cell(0, 0, 1, 0)", () -> x.cell(0, 0, 1, 0));
        is.due("agenda(0, 0, 0, 0)", -1, () -> x.agenda(0, 0, 0, 0));
        is.due("today(7)", 0, () -> x.today(7));
        is.due("pass(1)", 1, () -> x.pass(1));
        is.due("lines of another object", 0, () -> Checks.text("* a", "b").lines() - 2 + new Outlinery().lines());
    }

    private static void constants() {
        is.promise(1, "The constants");
        is.due("NONE", -1, () -> Outlinery.NONE);
        is.due("ERROR", 1000000, () -> Outlinery.ERROR);
        is.due("kinds", "0 1 2 3 4 5 6 7", () -> Outlinery.HEADING + " " + Outlinery.PROPERTY + " " + Outlinery.DATE + " "
            + Outlinery.CLOCK + " " + Outlinery.ROW + " " + Outlinery.CODE + " " + Outlinery.INCLUDE + " " + Outlinery.TEXT);
        is.due("states", "0 1 2 3", () -> Outlinery.TODO + " " + Outlinery.WAIT + " " + Outlinery.DONE + " "
            + Outlinery.DROP);
    }

    private static void callsUpTo512() {
        is.promise(1, "An object is used for at most 512 calls after it has been made");
        Outlinery signs = new Outlinery();
        signs.line(0);
        for (int i = 0; i < 255; i++) {
            is.due("sign, call " + (2 * i + 2), 1, () -> signs.sign(0, '*'));
            is.due("rub, call " + (2 * i + 3), 0, () -> signs.rub(0));
        }
        is.due("call 512", 1, signs::lines);
        Outlinery blocks = Checks.text("{a}1");
        for (int i = 0; i < 126; i++) {
            int digit = i % 10;
            blocks.rub(0);
            blocks.sign(0, (char) ('0' + digit));
            is.due("run " + i, digit, () -> blocks.run(0));
            is.due("runs of " + (i + 1), i + 1, blocks::runs);
        }
        Outlinery parts = Checks.text("* a");
        for (int i = 0; i < 253; i++) {
            is.due("archive " + i, 1, () -> parts.archive(0));
            is.due("bringBack " + i, 0, parts::bringBack);
        }
        is.due("call 512", 3, () -> parts.entry(0, 5) + 2);
        Outlinery days = Checks.text("* a", "@0+1");
        for (int i = 1; i <= 250; i++) {
            int day = i;
            is.due("state " + i, 0, () -> days.state(0, 2));
            is.due("day " + i, day, () -> days.entry(0, 7));
        }
    }

    // ---- line

    private static void linesUpTo60() {
        is.promise(2, "The text has at most 60 lines, numbered from 0");
        Outlinery x = new Outlinery();
        for (int i = 0; i < 60; i++) {
            int line = i;
            is.due("line(" + i + ")", i + 1, () -> x.line(line));
        }
        is.cannot("a 61st line", () -> x.line(60));
        is.due("lines", 60, x::lines);
        is.due("line 0 is there", 7, () -> x.kind(0));
        is.due("line 59 is there", 7, () -> x.kind(59));
        is.noSuch("line 60 is not", () -> x.kind(60));
        is.due("a sign in line 59", 1, () -> x.sign(59, 'z'));
        is.due("it is there", 'z', () -> x.signAt(59, 0));
        is.due("rub of the sign", 0, () -> x.rub(59));
        is.due("rub of the line", -1, () -> x.rub(59));
        is.due("there is room for one again", 60, () -> x.line(0));
        is.cannot("and not for two", () -> x.line(0));
    }

    private static void lineAheadOfWhich() {
        is.promise(2, "0 to the number of lines: ahead of which one");
        Outlinery x = Checks.text("a", "b");
        is.due("0, the smallest one", 3, () -> x.line(0));
        is.dueLines("ahead of all", x, "", "a", "b");
        is.due("3, the largest one", 4, () -> x.line(3));
        is.dueLines("behind all", x, "", "a", "b", "");
        is.due("2, one between", 5, () -> x.line(2));
        is.dueLines("ahead of b", x, "", "a", "", "b", "");
        Outlinery none = new Outlinery();
        is.noSuch("1, without lines", () -> none.line(1));
        is.due("0, without lines", 1, () -> none.line(0));
        is.promise(2, "Throws IndexOutOfBoundsException if line is out of range");
        is.refusedEach("line", Checks.NO_SUCH, () -> Checks.text("* a", "b"), (y, line) -> y.line(line), -1, 3, MIN, MAX);
        is.refusedEach("line, without lines", Checks.NO_SUCH, Outlinery::new, (y, line) -> y.line(line), -1, 1, MIN, MAX);
    }

    private static void lineWithoutSigns() {
        is.promise(2, "Puts a line without signs in");
        Outlinery x = Checks.text(FULL, "b");
        x.line(0);
        is.due("its first sign", (char) 0, () -> x.signAt(0, 0));
        is.due("its kind", 7, () -> x.kind(0));
        is.due("its first sign then", 1, () -> x.sign(0, '*'));
        x.rub(2);
        x.rub(2);
        x.line(1);
        is.dueLines("where a full line has been", x, "*", "", FULL);
        x.line(3);
        is.dueLines("where another one has been", x, "*", "", FULL, "");
    }

    private static void lineOfTooMany() {
        is.promise(2, "Throws IllegalStateException if there are 60");
        is.refusedEach("line", Checks.CANNOT, () -> Checks.fill(Checks.text("* a", "b"), 1, 60), (x, line) -> x.line(line), 0, 30,
            59, 60);
        Outlinery x = Checks.fill(new Outlinery(), 0, 59);
        is.due("with 59", 60, () -> x.line(59));
    }

    private static void lineThrowsFirst() {
        is.promise(2, "If several exceptions apply, the one that is documented first is thrown");
        is.refusedEach("line, with 60", Checks.NO_SUCH, () -> Checks.fill(new Outlinery(), 0, 60), (x, line) -> x.line(line), -1,
            61, MIN, MAX);
    }

    // ---- sign

    private static void signsFrom32To126() {
        is.promise(3, "each a char from 32 to 126");
        for (int i = 32; i <= 126; i++) {
            char sign = (char) i;
            Outlinery x = Checks.text("");
            is.due("sign " + i, 1, () -> x.sign(0, sign));
            is.due("sign " + i + " is there", sign, () -> x.signAt(0, 0));
        }
        is.promise(3, "Throws IllegalArgumentException if sign is not from 32 to 126");
        is.refusedEach("sign", Checks.OUT_OF_RANGE, () -> Checks.text("* a"), (x, sign) -> x.sign(0, (char) sign), 0, 9, 10, 31,
            127, 128, 160, 255, 256, 65535);
    }

    private static void signsUpTo24() {
        is.promise(3, "a line has at most 24 signs");
        Outlinery x = Checks.text("", "b");
        for (int i = 1; i <= 24; i++) {
            int size = i;
            is.due("sign " + i, size, () -> x.sign(0, FULL.charAt(size - 1)));
        }
        is.cannot("a 25th sign", () -> x.sign(0, 'y'));
        is.dueLines("a full line", x, FULL, "b");
        is.due("one less", 23, () -> x.rub(0));
        is.due("there is room for one again", 24, () -> x.sign(0, 'X'));
        is.cannot("and not for two", () -> x.sign(0, 'Y'));
        is.promise(3, "Throws IllegalStateException if it has 24");
        is.refusedEach("sign", Checks.CANNOT, () -> Checks.text(FULL, "b"), (y, sign) -> y.sign(0, (char) sign), 32, 'a', 126);
        is.refused("sign at the last line", Checks.CANNOT, () -> Checks.text("b", FULL), y -> y.sign(1, 'y'));
        is.due("23 signs", 24, () -> Checks.text(FULL.substring(1)).sign(0, ' '));
    }

    private static void signOfNoLine() {
        is.promise(3, "Throws IndexOutOfBoundsException if there is no such line");
        is.refusedEach("line", Checks.NO_SUCH, () -> Checks.text("* a", "b"), (x, line) -> x.sign(line, 'a'), -1, 2, MIN, MAX);
        is.refusedEach("line, without lines", Checks.NO_SUCH, Outlinery::new, (x, line) -> x.sign(line, 'a'), -1, 0, MIN, MAX);
        is.refusedEach("line, with 60", Checks.NO_SUCH, () -> Checks.fill(new Outlinery(), 0, 60),
            (x, line) -> x.sign(line, 'a'), -1, 60, MIN, MAX);
    }

    private static void signThrowsFirst() {
        is.promise(3, "If several exceptions apply, the one that is documented first is thrown");
        is.refusedEach("no line, no sign", Checks.NO_SUCH, () -> Checks.text(FULL), (x, line) -> x.sign(line, (char) 31), -1, 1,
            MIN, MAX);
        is.refusedEach("no sign, a full line", Checks.OUT_OF_RANGE, () -> Checks.text(FULL),
            (x, sign) -> x.sign(0, (char) sign), 0, 31, 127, 65535);
    }

    // ---- rub

    private static void rubOfTheLastSign() {
        is.promise(4, "Takes the last sign of a line away");
        Outlinery x = Checks.text("b", FULL, "c");
        for (int i = 23; i >= 0; i--) {
            int left = i;
            is.due("rub, " + left + " are left", left, () -> x.rub(1));
            is.due("the last one that is left", left == 0 ? (char) 0 : FULL.charAt(left - 1),
                () -> x.signAt(1, Math.max(0, left - 1)));
            is.due("the one that is gone", (char) 0, () -> x.signAt(1, left));
        }
        is.dueLines("the line is there still", x, "b", "", "c");
    }

    private static void rubOfALineWithoutSigns() {
        is.promise(4, "or the line, if it has none. Returns NONE if it is gone");
        Outlinery x = Checks.text("", "a", "", "b", "");
        is.due("the first one", -1, () -> x.rub(0));
        is.dueLines("the first one", x, "a", "", "b", "");
        is.due("the last one", -1, () -> x.rub(3));
        is.dueLines("the last one", x, "a", "", "b");
        is.due("one between", -1, () -> x.rub(1));
        is.dueLines("one between", x, "a", "b");
        Outlinery one = Checks.text("");
        is.due("the only one", -1, () -> one.rub(0));
        is.due("lines", 0, one::lines);
        is.noSuch("then there is none", () -> one.rub(0));
        Outlinery full = Checks.fill(Checks.text("a", "b"), 1, 60);
        is.due("of 60", -1, () -> full.rub(58));
        is.due("59 are left", 59, full::lines);
        is.due("the last one stays", 'b', () -> full.signAt(58, 0));
    }

    private static void rubOfNoLine() {
        is.promise(4, "Throws IndexOutOfBoundsException if there is no such line");
        is.refusedEach("line", Checks.NO_SUCH, () -> Checks.text("* a", ""), (x, line) -> x.rub(line), -1, 2, MIN, MAX);
        is.refusedEach("line, without lines", Checks.NO_SUCH, Outlinery::new, (x, line) -> x.rub(line), -1, 0, MIN, MAX);
        is.noSuch("line 60 of 60", () -> Checks.fill(new Outlinery(), 0, 60).rub(60));
    }

    // ---- lines, signAt, kind

    private static void linesAreCounted() {
        is.promise(5, "Returns how many lines there are");
        is.due("none", 0, () -> new Outlinery().lines());
        is.due("one without signs", 1, () -> Checks.text("").lines());
        is.due("60", 60, () -> Checks.fill(new Outlinery(), 0, 60).lines());
        is.due("59", 59, () -> Checks.fill(new Outlinery(), 0, 59).lines());
        Outlinery x = Checks.text("a");
        x.rub(0);
        is.due("a line that lost its signs", 1, x::lines);
        x.rub(0);
        is.due("a line that is gone", 0, x::lines);
    }

    private static void signAtTheFirstOne() {
        is.promise(6, "0 for the first one");
        Outlinery x = Checks.text(FULL, "~", " ");
        for (int i = 0; i < 24; i++) {
            int place = i;
            is.due("place " + i, FULL.charAt(i), () -> x.signAt(0, place));
        }
        is.due("of one sign", '~', () -> x.signAt(1, 0));
        is.due("a blank", ' ', () -> x.signAt(2, 0));
    }

    private static void signAtBehindTheLastOne() {
        is.promise(6, "a 0 behind the last one");
        Outlinery x = Checks.text(FULL, "ab", "", FULL);
        is.dueEach("place, of 24 signs", (char) 0, place -> x.signAt(0, place), 24, 25, 47, 48, 1440, MAX - 1, MAX);
        is.dueEach("place, of two signs", (char) 0, place -> x.signAt(1, place), 2, 3, 23, 24, 25, MAX);
        is.dueEach("place, without signs", (char) 0, place -> x.signAt(2, place), 0, 1, 24, MAX);
        is.dueEach("place, of the last line", (char) 0, place -> x.signAt(3, place), 24, MAX);
    }

    private static void signAtNoPlace() {
        is.promise(6, "Throws IndexOutOfBoundsException if there is no such line, or place is below 0");
        is.refusedEach("line", Checks.NO_SUCH, () -> Checks.text("* a", "b"), (x, line) -> x.signAt(line, 0), -1, 2, MIN, MAX);
        is.refusedEach("place", Checks.NO_SUCH, () -> Checks.text("* a", "b"), (x, place) -> x.signAt(1, place), -1, -2, MIN);
        is.refusedEach("place, without signs", Checks.NO_SUCH, () -> Checks.text(""), (x, place) -> x.signAt(0, place), -1, MIN);
        is.noSuch("both", () -> Checks.text("a").signAt(1, -1));
        is.noSuch("no line and a place that is far behind", () -> Checks.text("a").signAt(1, MAX));
        is.noSuch("without lines", () -> new Outlinery().signAt(0, 0));
    }

    private static void kindOfNoLine() {
        is.promise(7, "Throws IndexOutOfBoundsException if there is no such line");
        is.refusedEach("line", Checks.NO_SUCH, () -> Checks.text("* a", "b"), (x, line) -> x.kind(line), -1, 2, MIN, MAX);
        is.refusedEach("line, without lines", Checks.NO_SUCH, Outlinery::new, (x, line) -> x.kind(line), -1, 0, MIN, MAX);
        is.noSuch("line 60 of 60", () -> Checks.fill(new Outlinery(), 0, 60).kind(60));
    }

    private static void kindOfEachLine() {
        is.promise(7, "Returns HEADING to TEXT");
        Outlinery x = Checks.text("* a", ":a:1", "@1", "%1-", "|1", "{a}1", "!a", "a");
        for (int i = 0; i < 8; i++) {
            int kind = i;
            is.due("kind(" + i + ")", kind, () -> x.kind(kind));
        }
        Checks.fill(x, 8, 60);
        Checks.write(x, 59, "* b");
        is.due("kind(59)", 0, () -> x.kind(59));
        is.due("kind(58)", 7, () -> x.kind(58));
    }

    // ---- what a line is

    private static void linesAsAWhole() {
        is.promise(7, "A line is the first of these that it is, as a whole");
        for (String line : WHOLE) {
            is.due("kind of '" + line + "'", true, () -> Checks.text(line).kind(0) < 7);
            is.dueKinds(7, " " + line, "x" + line, line + " ", line + "x", line + "|", line + ":", line + "!");
        }
        is.dueKinds(7, " * a", "x* a", ":* a", "@* a", "|* a", "{* a", "!* a");
        is.dueKinds(0, "* :a:1", "* @5", "* |1", "* !a", "* {a}1", "* %1-");
    }

    /** What a line is while its signs come, one by one, and while they go. */
    private static void dueKindsOf(String line, String kinds) {
        Outlinery x = Checks.text("");
        for (int i = 0; i < line.length(); i++) {
            char sign = line.charAt(i);
            int kind = kinds.charAt(i + 1) - '0';
            x.sign(0, sign);
            is.due("kind of '" + line.substring(0, i + 1) + "', which grows", kind, () -> x.kind(0));
        }
        for (int i = line.length() - 1; i >= 0; i--) {
            int kind = kinds.charAt(i) - '0';
            x.rub(0);
            is.due("kind of '" + line.substring(0, i) + "', which shrinks", kind, () -> x.kind(0));
        }
    }

    private static void linesThatGrow() {
        is.promise(7, "Returns what a line is");
        dueKindsOf("** TODO a :b:", "77700000000000");
        dueKindsOf("****** a", "777777777");
        dueKindsOf(":a:12345", "777711117");
        dueKindsOf("@5-6+7+ ", "772727227");
        dueKindsOf("@19-20+10.x", "772277272227");
        dueKindsOf("%5-67-", "7773337");
        dueKindsOf("|1|-23|=a1+Sb*7|", "77477447774774747");
        dueKindsOf("{a}1+a1*(b)-:c", "777757757775775");
        dueKindsOf("!ab", "7767");
    }

    private static void linesThatLoseWhatTheyHad() {
        is.promise(7, "A line is the first of these that it is, as a whole");
        Outlinery x = Checks.text("* TODO a :b:", "@5-6+7.", "%1-2", "|1|2|=a1+b1");
        is.due("tags", B, () -> x.entry(0, 6));
        is.due("a third cell", 3, () -> x.cell(0, 0, 1, 2));
        is.due("a day that repeats", 0, () -> x.agenda(13, 0, 0, 0));
        is.due("a clock", 1, () -> x.clocked(0));
        x.rub(0);
        x.rub(1);
        x.rub(2);
        x.rub(3);
        is.due("tags that are gone", 0, () -> x.entry(0, 6));
        is.dueExport("a title that grew", x, "* a :b", "|1|2|=a1+b");
        is.due("a clock that runs then", 0, () -> x.clocked(0));
        is.noSuch("a row that is gone", () -> x.cell(0, 0, 1, 0));
        for (int i = 0; i < 6; i++) {
            x.rub(3);
        }
        is.due("a row of two cells", 2, () -> x.cell(0, 0, 1, 1));
        is.noSuch("a third cell that is gone", () -> x.cell(0, 0, 1, 2));
        is.dueExport("two cells", x, "* a :b", "|1|2");
        x.today(50);
        is.due("a date without a mark", 0, () -> x.state(0, 2));
        is.due("goes on once", 12, () -> x.entry(0, 7));
        x.rub(1);
        x.rub(1);
        is.due("a date without a distance", -1, () -> x.agenda(20, 0, 0, 0));
        is.due("its last day", 0, () -> x.agenda(13, 0, 0, 0));
        is.due("does not repeat", 2, () -> x.state(0, 2));
        x.state(0, 0);
        for (int i = 0; i < 3; i++) {
            x.rub(1);
        }
        is.due("a date without a last day", -1, () -> x.agenda(13, 0, 0, 0));
        is.due("its day", 0, () -> x.agenda(12, 0, 0, 0));
        x.state(0, -1);
        is.due("a state that is gone", -1, () -> x.entry(0, 3));
    }

    /** Numbers in a line, where a "#" stands. */
    private static void dueNumbers(int kind, String line, String... numbers) {
        for (String number : numbers) {
            is.dueKinds(kind, line.replace("#", number));
        }
    }

    private static void numbersHaveOneToFourDigits() {
        is.promise(7, "Numbers in lines have one to four digits, the first one not 0, if there are several");
        String[] lines = {":a:#", "@#", "@0-#", "@0-9999+#", "@0+#+", "%#-", "%0-#", "|#", "|-#", "|1|#", "|=#", "|=1+#",
            "|=#*1", "{a}#", "{a}1*#"};
        int[] kinds = {1, 2, 2, 2, 2, 3, 3, 4, 4, 4, 4, 4, 4, 5, 5};
        for (int i = 0; i < lines.length; i++) {
            dueNumbers(kinds[i], lines[i], "1", "9", "10", "19", "90", "99", "100", "909", "999", "1000", "1234", "9009", "9999");
            dueNumbers(7, lines[i], "00", "01", "09", "000", "001", "010", "0000", "0001", "0100", "00000", "10000", "12345",
                "99999", "100000", "1a", "1:", "1/", "1 ", " 1");
            dueNumbers(lines[i].equals("%0-#") ? 3 : 7, lines[i], "");
            dueNumbers(lines[i].contains("+#") && kinds[i] == 2 ? 7 : kinds[i], lines[i], "0");
        }
        Outlinery x = Checks.text("* a", ":a:9999", ":b:0", "@9999", "|9999|-9999|=9999|0");
        is.due("9999 as a property", 9999, () -> x.property(0, 0, false));
        is.due("0 as a property", 0, () -> x.property(0, 1, false));
        is.due("9999 as a day", 9999, () -> x.entry(0, 7));
        is.dueExport("as cells", x, "* a", "|9999|-9999|9999|0");
    }

    private static void headingsHaveOneToFiveStars() {
        is.promise(7, "one to five \"*\"");
        is.dueKinds(0, "* a", "** a", "*** a", "**** a", "***** a");
        is.dueKinds(7, "a", " a", "****** a", "******* a", "******", "************************");
        is.due("level 1", 1, () -> Checks.text("* * a").entry(0, 1));
        is.due("level 5", 5, () -> Checks.text("***** ***** a").entry(0, 1));
        is.dueExport("stars in the title", Checks.text("* * a", "***** *"), "* * a", "***** *");
    }

    private static void headingsHaveABlank() {
        is.promise(7, "a HEADING: one to five \"*\", a blank");
        is.dueKinds(7, "*", "*****", "*a", "*:a:", "**a b", "*TODO a", "*-", "*!");
        is.dueKinds(0, "* ", "***** ", "*  ", "* !", "** ~");
    }

    /** State, tags and title of a line as the only one of a text. */
    private static void dueHeading(String line, int state, int tags, String title) {
        Outlinery x = Checks.text(line);
        is.due("state of '" + line + "'", state, () -> x.entry(0, 3));
        is.due("tags of '" + line + "'", tags, () -> x.entry(0, 6));
        is.dueExport("title of '" + line + "'", x, line.substring(0, line.indexOf(' ') + 1) + title);
    }

    private static void statesAreFour() {
        is.promise(7, "perhaps a state, TODO, WAIT, DONE or DROP, and a blank");
        dueHeading("* TODO a", 0, 0, "a");
        dueHeading("** WAIT a", 1, 0, "a");
        dueHeading("*** DONE a", 2, 0, "a");
        dueHeading("***** TODO a", 0, 0, "a");
        is.due("DROP", 3, () -> Checks.text("* DROP a").entry(0, 3));
        dueHeading("* NEXT a", -1, 0, "NEXT a");
        dueHeading("* todo a", -1, 0, "todo a");
        dueHeading("* TODO WAIT a", 0, 0, "WAIT a");
        dueHeading("* DONE DONE ", 2, 0, "DONE ");
        dueHeading("* a TODO b", -1, 0, "a TODO b");
    }

    private static void statesHaveABlank() {
        is.promise(7, "perhaps a state, ..., and a blank; the title");
        dueHeading("* TODO", -1, 0, "TODO");
        dueHeading("* WAIT", -1, 0, "WAIT");
        dueHeading("* DONE", -1, 0, "DONE");
        dueHeading("* DROP", -1, 0, "DROP");
        dueHeading("* TODOa", -1, 0, "TODOa");
        dueHeading("* TODO:", -1, 0, "TODO:");
        dueHeading("* TOD O", -1, 0, "TOD O");
        dueHeading("*  TODO a", -1, 0, " TODO a");
        dueHeading("* TODO  a", 0, 0, " a");
        dueHeading("* TODO :a:", 0, 0, ":a:");
    }

    private static void titlesMayBeWithoutSigns() {
        is.promise(7, "the title, perhaps without signs");
        dueHeading("* ", -1, 0, "");
        dueHeading("***** ", -1, 0, "");
        dueHeading("* TODO ", 0, 0, "");
        dueHeading("*  :a:", -1, A, "");
        dueHeading("* TODO  :a:", 0, A, "");
        dueHeading("*  ", -1, 0, " ");
        dueHeading("* a", -1, 0, "a");
        dueHeading("* 3456789012345678901234", -1, 0, "3456789012345678901234");
        dueHeading("***** 789012345678901234", -1, 0, "789012345678901234");
        dueHeading("* TODO 89012345678901234", 0, 0, "89012345678901234");
    }

    private static void tagsHaveALetter() {
        is.promise(7, "perhaps tags: a blank, \":\", a letter from a to z, \":\"");
        dueHeading("* t :a:", -1, A, "t");
        dueHeading("* t :z:", -1, Z, "t");
        dueHeading("* t :`:", -1, 0, "t :`:");
        dueHeading("* t :{:", -1, 0, "t :{:");
        dueHeading("* t :A:", -1, 0, "t :A:");
        dueHeading("* t :Z:", -1, 0, "t :Z:");
        dueHeading("* t :1:", -1, 0, "t :1:");
        dueHeading("* t ::", -1, 0, "t ::");
        dueHeading("* t :", -1, 0, "t :");
        dueHeading("* t :a", -1, 0, "t :a");
        dueHeading("* t a:", -1, 0, "t a:");
        dueHeading("* t :ab:", -1, 0, "t :ab:");
        dueHeading("* t :a:b", -1, 0, "t :a:b");
        dueHeading("* t :a::", -1, 0, "t :a::");
        dueHeading("* t ::a:", -1, 0, "t ::a:");
        dueHeading("* t :a::b:", -1, 0, "t :a::b:");
        dueHeading("* t :a:B:", -1, 0, "t :a:B:");
    }

    private static void tagsAreAtTheEnd() {
        is.promise(7, "at the end");
        dueHeading("* t :a: ", -1, 0, "t :a: ");
        dueHeading("* t :a: b", -1, 0, "t :a: b");
        dueHeading("* t :a: :b", -1, 0, "t :a: :b");
        dueHeading("* t :a: :b:", -1, B, "t :a:");
        dueHeading("* t  :a:", -1, A, "t ");
        dueHeading("* t:a:", -1, 0, "t:a:");
        dueHeading("* 345678901234567890 :z:", -1, Z, "345678901234567890");
    }

    private static void asManyTagsAsCanBe() {
        is.promise(7, "perhaps more letters, each with a \":\" behind it, at the end, as many as can be");
        dueHeading("* t :a:b:", -1, A + B, "t");
        dueHeading("* t :c:b:a:", -1, A + B + C, "t");
        dueHeading("* t :a:a:a:", -1, A, "t");
        dueHeading("*  :a:b:c:d:e:f:g:h:i:j:", -1, 1023, "");
        dueHeading("* x:y :a:b:", -1, A + B, "x:y");
        dueHeading("* x:y:a:b:", -1, 0, "x:y:a:b:");
    }

    private static void blankOfTags() {
        is.promise(7, "the blank is another one than that behind the stars or the state");
        dueHeading("* :a:", -1, 0, ":a:");
        dueHeading("***** :a:", -1, 0, ":a:");
        dueHeading("* TODO :a:", 0, 0, ":a:");
        dueHeading("* DONE :a:b:", 2, 0, ":a:b:");
        dueHeading("*  :a:", -1, A, "");
        dueHeading("* WAIT  :a:", 1, A, "");
        dueHeading("* :a: :b:", -1, B, ":a:");
        dueHeading("* NEXT :a:", -1, A, "NEXT");
    }

    /** Signs ahead of "a" and behind the last letter, and others that are none, where a "#" stands. */
    private static void dueLetters(int kind, String line, String last) {
        dueNumbers(kind, line, "a", "b", last);
        dueNumbers(7, line, "`", "A", "Z", "_", "~", String.valueOf((char) (last.charAt(0) + 1)));
    }

    private static void propertiesHaveALetter() {
        is.promise(7, "a PROPERTY: \":\", a letter from a to z, \":\", a number");
        dueLetters(1, ":#:1", "z");
        is.dueKinds(7, "::1", ":a1", "a:1", ":ab:1", ":a:", ":a:-1", ":a: 1", ":a:b", ":1:1", ":a:1:");
        Outlinery x = Checks.text("* t", ":a:1", ":z:2");
        is.due("a", 1, () -> x.property(0, 0, false));
        is.due("z", 2, () -> x.property(0, 25, false));
    }

    private static void lastDaysAreNotLess() {
        is.promise(7, "perhaps \"-\" and a number, the last day, not less");
        is.dueKinds(2, "@5-5", "@5-6", "@0-0", "@0-9999", "@9999-9999", "@9-10", "@99-100+1.");
        is.dueKinds(7, "@5-4", "@1-0", "@9999-9998", "@10-9", "@100-99+1", "@5-", "@-5", "@-", "@", "@5--6", "@5-6-7");
    }

    private static void distancesAreFromOneOn() {
        is.promise(7, "perhaps \"+\" and a number from 1 on, the distance of repeats");
        is.dueKinds(2, "@5+1", "@5+9999", "@5-6+1", "@5-9+1", "@0+1", "@9999-9999+9999+");
        is.dueKinds(7, "@5+0", "@5+0+", "@5+0.", "@5-6+0", "@5+", "@5++", "@5+.", "@+1", "@5+10000", "@5+-1", "@5+1-6",
            "@5+1+1");
    }

    private static void marksAreBehindADistance() {
        is.promise(7, "and perhaps \"+\" or \".\" behind that");
        is.dueKinds(2, "@5+7+", "@5+7.", "@5-6+7+", "@5-6+7.");
        is.dueKinds(7, "@5.", "@5-6.", "@5-6+", "@5+7-", "@5+7++", "@5+7..", "@5+7+.", "@5+7.+", "@5+7,", "@5+7*");
    }

    private static void clocksEndNotLess() {
        is.promise(7, "a CLOCK: \"%\", a number, \"-\", a number, not less");
        is.dueKinds(3, "%5-5", "%5-6", "%0-0", "%0-9999", "%9999-9999", "%9-10", "%99-100");
        is.dueKinds(7, "%5-4", "%1-0", "%9999-9998", "%10-9", "%100-99", "%5", "%-5", "%5--6", "%5-6-", "%5+6");
    }

    private static void clocksMayRun() {
        is.promise(7, "or nothing, while it runs");
        is.dueKinds(3, "%0-", "%5-", "%9999-");
        is.dueKinds(7, "%", "%-", "%5- ", "% 5-", "%10000-");
        is.due("one runs", 1, () -> Checks.text("%9999-").clockOut(0));
        is.due("one does not", 0, () -> Checks.text("%9999-9999").clockOut(0));
        is.due("TEXT does not", 0, () -> Checks.text("%10000-").clockOut(0));
    }

    private static void rowsHaveAtLeastOneCell() {
        is.promise(7, "a ROW: \"|\", cells with \"|\" between them, at least one");
        is.dueKinds(4, "|1", "|1|2", "|1|2|3|4|5|6|7|8|9|0|1|2", "|=a1|=a1|=a1|=a1|=a1|=1");
        is.dueKinds(7, "|", "||", "||1", "|1|", "|1||2", "1|2", "1", "|1|2|3|4|5|6|7|8|9|0|1|");
        Outlinery x = Checks.text("* a", "|1|2|3|4|5|6|7|8|9|0|1|2");
        is.due("the twelfth cell", 2, () -> x.cell(0, 0, 1, 11));
        is.noSuch("a thirteenth cell", () -> x.cell(0, 0, 1, 12));
    }

    private static void cellsAreOneOfThree() {
        is.promise(7, "a cell is a number, \"-\" and a number, or \"=\" and a sum");
        is.dueKinds(4, "|0", "|9999", "|-0", "|-9999", "|=0", "|=9999", "|=1-1");
        is.dueKinds(7, "|-", "|--1", "|+1", "|=", "|=-1", "|==1", "|=+1", "|-=1", "|a1", "|Sa", "|(a)", "|:a", "|1+1", "|1-1",
            "|1=1");
    }

    private static void sumsHaveOneToSixTerms() {
        is.promise(7, "A sum is one to six terms");
        for (String ahead : new String[] {"|=", "|1|=", "{a}"}) {
            int kind = ahead.equals("{a}") ? 5 : 4;
            is.dueKinds(kind, ahead + "1", ahead + "1+2", ahead + "1+2+3+4+5", ahead + "1+2+3+4+5+6", ahead + "a1+b2+c3+d4+e5+6");
            is.dueKinds(7, ahead, ahead + "1+2+3+4+5+6+7", ahead + "1*1*1*1*1*1*1*1", ahead + "1+2+3+4+5+6+");
        }
        is.dueKinds(4, "|=1+2+3+4+5+6|=1+2+3+4+5", "|=1*1*1*1*1*1|=1*1*1*1*1");
        is.due("six terms", 21, () -> Checks.text("* a", "|=1+2+3+4+5+6").cell(0, 0, 1, 0));
        is.due("six terms in code", 21, () -> Checks.text("{a}1+2+3+4+5+6").run(0));
        is.dueExport("six terms, and five", Checks.text("|=1+2+3+4+5+6|=1+2+3+4+5"), "|21|15");
    }

    private static void termsAreJoinedByThreeSigns() {
        is.promise(7, "terms with \"+\", \"-\" or \"*\" between them");
        for (String ahead : new String[] {"|=", "{a}"}) {
            int kind = ahead.equals("{a}") ? 5 : 4;
            is.dueKinds(kind, ahead + "1+1", ahead + "1-1", ahead + "1*1");
            is.dueKinds(7, ahead + "1/1", ahead + "1,1", ahead + "1 1", ahead + "1.1", ahead + "1)1", ahead + "1++1",
                ahead + "1+-1", ahead + "+1", ahead + "-1", ahead + "*1", ahead + "1+", ahead + "1-", ahead + "1*", ahead + "1=1",
                ahead + "a1a1", ahead + "a1b1", ahead + "Sa1", ahead + "(a)1", ahead + "1(a)", ahead + ":a1", ahead + "1:a");
        }
    }

    private static void termsAreOneOfFive() {
        is.promise(7, "a term is a number; a letter from a to e and a digit from 1 to 9; \"S\" and a letter from a to e; "
            + "a letter from a to z in \"(\" and \")\"; or \":\" and a letter from a to z");
        for (String ahead : new String[] {"|=", "|=1+", "{a}", "{a}1*"}) {
            int kind = ahead.startsWith("{") ? 5 : 4;
            dueLetters(kind, ahead + "#1", "e");
            dueLetters(kind, ahead + "#9*1", "e");
            dueLetters(kind, ahead + "S#", "e");
            dueLetters(kind, ahead + "(#)", "z");
            dueLetters(kind, ahead + ":#", "z");
            dueNumbers(kind, ahead + "a#", "1", "2", "8", "9");
            dueNumbers(7, ahead + "a#", "0", "/", ":", "a", "", "10", "11", "99", "01", "-1");
            is.dueKinds(7, ahead + "S", ahead + "s" + "a", ahead + "SS", ahead + "S1", ahead + "Sab", ahead + "()", ahead + "(ab)",
                ahead + "(1)", ahead + "(a", ahead + "a)", ahead + "((a))", ahead + ":", ahead + ":1", ahead + ":ab",
                ahead + ":a:", ahead + "::a", ahead + "1a", ahead + "[a]", ahead + "S(a)");
        }
    }

    private static void codeHasALetterAndASum() {
        is.promise(7, "CODE: \"{\", a letter from a to z, \"}\", a sum");
        dueLetters(5, "{#}1", "z");
        is.dueKinds(7, "{}1", "{a}", "{a", "{a1", "a}1", "{ab}1", "{1}1", "{a}}1", "{{a}1", "{a}=1", "{a} 1", "{a}|1", "{a}1|2",
            "(a)1", "[a]1");
        Outlinery x = Checks.text("{a}1", "{z}2");
        is.due("a", 1, () -> x.run(0));
        is.due("z", 2, () -> x.run(25));
    }

    private static void includesHaveALetter() {
        is.promise(7, "an INCLUDE: \"!\", a letter from a to z");
        dueLetters(6, "!#", "z");
        is.dueKinds(7, "!", "!!", "!!a", "!ab", "!1", "! a", "!a ", "!a!", "a!", "!:a");
    }

    private static void textIsOtherwise() {
        is.promise(7, "TEXT, otherwise");
        is.dueKinds(7, "", " ", "a", "~", FULL, "                        ", "[a]", "^1", "#", "+1", "1", "-1", "=1", "(a)", "%a",
            "@a", "&", ".", ";", "?");
    }
}

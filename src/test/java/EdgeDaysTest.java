/** The edges of promises 17 to 22, and of what the document says of agendas and clocks: a test for each such sentence. */
public final class EdgeDaysTest {
    private static final Checks is = new Checks("EdgeDaysTest");
    private static final int MIN = Integer.MIN_VALUE;
    private static final int MAX = Integer.MAX_VALUE;
    private static final int A = 1, B = 2, Z = 1 << 25, ALL = (1 << 26) - 1;
    private static final Checks.Made DATED = () -> onDay5("* a :a:", "@0-9999");

    public static void main(String[] args) {
        todayIs0AtFirst();
        todayThrows();
        agendaFromTheDayToTheLastDay();
        agendaOfRepeats();
        agendaOfSpansThatRepeat();
        agendaOfTheFirstDate();
        agendaNotOfDoneOrDrop();
        agendaWithTags();
        agendaButTags();
        agendaPlaces();
        agendaOfNoPlace();
        agendaOutOfRange();
        agendaThrowsFirst();
        passFrom0();
        passOf1To500();
        passUpTo9999();
        clockInFromNow();
        clockInEndsAll();
        clockInNotLessThanItsBegin();
        clockInUpTo60Lines();
        clockInThrows();
        clockOutLessIdle();
        clockOutNotLessThanItsBegin();
        clockOutOfNone();
        clockOutThrows();
        clockedOfThoseThatDoNotRun();
        clockedOfAllBelow();
        clockedThrows();
        is.end();
    }

    // ---- today

    private static void todayIs0AtFirst() {
        is.promise(17, "Today is 0 at first. Returns the day before");
        Outlinery x = new Outlinery();
        is.due("at first", 0, () -> x.today(9999));
        is.due("9999, the largest one", 9999, () -> x.today(0));
        is.due("0, the smallest one", 0, () -> x.today(5));
        is.due("5", 5, () -> x.today(5));
        x.pass(7);
        is.due("now is another thing", 5, () -> x.today(0));
        is.due("where it counts", "@7+7.", () -> {
            Outlinery y = Checks.text("* a", "@50+7.");
            y.state(0, 2);
            return Checks.lineOf(y, 1);
        });
    }

    private static Outlinery onDay5(String... lines) {
        Outlinery x = Checks.text(lines);
        x.today(5);
        x.pass(7);
        return x;
    }

    private static void todayThrows() {
        is.promise(17, "Throws IllegalArgumentException if day is out of range: 0 to 9999");
        is.refusedEach("day", Checks.OUT_OF_RANGE, () -> onDay5("* a", "@5"), (x, day) -> x.today(day), -1, 10000, MIN, MAX);
    }

    // ---- agenda

    /** The days among some on which the first entry is. */
    private static String daysOf(String date, int... days) {
        Outlinery x = Checks.text("* a", date);
        StringBuilder on = new StringBuilder();
        for (int day : days) {
            on.append(x.agenda(day, 0, 0, 0) == 0 ? day + " " : "");
        }
        return on.toString().trim();
    }

    private static void agendaFromTheDayToTheLastDay() {
        is.promise(18, "An entry is on a day if its date is, from the day to the last day");
        is.due("a day", "5", () -> daysOf("@5", 0, 4, 5, 6, 10, 9999));
        is.due("day 0", "0", () -> daysOf("@0", 0, 1, 9999));
        is.due("day 9999", "9999", () -> daysOf("@9999", 0, 9998, 9999));
        is.due("a last day", "5 6 7", () -> daysOf("@5-7", 0, 4, 5, 6, 7, 8, 10, 9999));
        is.due("a last day that is the day", "5", () -> daysOf("@5-5", 4, 5, 6));
        is.due("all days", "0 1 5000 9998 9999", () -> daysOf("@0-9999", 0, 1, 5000, 9998, 9999));
        is.due("TEXT is no date", "", () -> daysOf("@5-4", 4, 5));
        is.due("today does not count", 0, () -> {
            Outlinery x = Checks.text("* a", "@5");
            x.today(100);
            return x.agenda(5, 0, 0, 0);
        });
    }

    private static void agendaOfRepeats() {
        is.promise(18, "or one of these days and a multiple of the distance, from 0 on");
        is.due("a distance", "5 12 19 9994", () -> daysOf("@5+7", 0, 4, 5, 6, 11, 12, 13, 18, 19, 20, 9993, 9994, 9995));
        is.due("not ahead of the day", "14 21", () -> daysOf("@14+7", 0, 7, 14, 21));
        is.due("a distance of 1", "3 4 9999", () -> daysOf("@3+1", 0, 2, 3, 4, 9999));
        is.due("a distance of 9999", "0 9999", () -> daysOf("@0+9999", 0, 1, 5000, 9998, 9999));
        is.due("a distance of 9998", "0 9998", () -> daysOf("@0+9998", 0, 1, 9997, 9998, 9999));
        is.due("behind 9999", "1", () -> daysOf("@1+9999", 0, 1, 2, 9999));
        is.due("with +", "5 12", () -> daysOf("@5+7+", 4, 5, 6, 12, 13));
        is.due("with .", "5 12", () -> daysOf("@5+7.", 4, 5, 6, 12, 13));
        is.due("without a distance", "5", () -> daysOf("@5", 5, 10, 15));
    }

    private static void agendaOfSpansThatRepeat() {
        is.promise(18, "from the day to the last day, or one of these days and a multiple of the distance");
        is.due("a last day", "5 6 12 13 19 20", () -> daysOf("@5-6+7", 4, 5, 6, 7, 11, 12, 13, 14, 18, 19, 20, 21));
        is.due("days that leave one out", "5 6 8 9 11 12", () -> daysOf("@5-6+3", 4, 5, 6, 7, 8, 9, 10, 11, 12));
        is.due("days that meet", "5 6 7 8 9 10", () -> daysOf("@5-7+3", 3, 4, 5, 6, 7, 8, 9, 10));
        is.due("days on each other", "5 6 7 8 9 100 9999", () -> daysOf("@5-7+2", 3, 4, 5, 6, 7, 8, 9, 100, 9999));
        is.due("a distance of 1", "5 6 7 8 9999", () -> daysOf("@5-7+1", 4, 5, 6, 7, 8, 9999));
        is.due("a long last day", "5 9 10 9999", () -> daysOf("@5-9999+4", 4, 5, 9, 10, 9999));
    }

    private static void agendaOfTheFirstDate() {
        is.promise(18, "The first DATE of an entry is its date");
        Outlinery x = Checks.text("@5", "* a", "@6", "@5", "* b", "** c", "@5", "* d", "x", "@5+0", "@5");
        is.due("the first one on it", 2, () -> x.agenda(5, 0, 0, 0));
        is.due("the second one on it", 3, () -> x.agenda(5, 0, 0, 1));
        is.due("no third one", -1, () -> x.agenda(5, 0, 0, 2));
        is.due("day 6", 0, () -> x.agenda(6, 0, 0, 0));
        is.due("dates are not inherited", -1, () -> Checks.text("* a", "@5", "** b").agenda(5, 0, 0, 1));
    }

    private static void agendaNotOfDoneOrDrop() {
        is.promise(18, "not if it is DONE or DROP");
        Outlinery x = Checks.text("* DONE a", "@5", "* DROP b", "@5", "* TODO c", "@5", "* WAIT d", "@5", "* e", "@5", "* DONE",
            "@5");
        int[] on = {2, 3, 4, 5, -1};
        for (int i = 0; i < on.length; i++) {
            int place = i;
            is.due("place " + i, on[i], () -> x.agenda(5, 0, 0, place));
        }
        is.due("below one that is DROP", 1, () -> Checks.text("* DROP a", "** b", "@5").agenda(5, 0, 0, 0));
        is.due("DONE, with a distance", -1, () -> Checks.text("* DONE a", "@5+1").agenda(6, 0, 0, 0));
    }

    private static void agendaWithTags() {
        is.promise(18, "that have all tags of a set, inherited ones too");
        Outlinery x = Checks.text("* a :a:", "@5", "** b :b:z:", "@5", "* c", "@5");
        int[][] asked = {{0, 0, 0}, {0, 1, 1}, {0, 2, 2}, {A, 0, 0}, {A, 1, 1}, {A, 2, -1}, {B, 0, 1}, {Z, 0, 1}, {A + B, 0, 1},
            {A + B + Z, 0, 1}, {A + B + Z, 1, -1}, {A + B + Z + 4, 0, -1}, {4, 0, -1}, {ALL, 0, -1}};
        for (int[] ask : asked) {
            is.due("with " + ask[0] + ", place " + ask[1], ask[2], () -> x.agenda(5, ask[0], 0, ask[1]));
        }
        Outlinery all = Checks.text("*  :a:b:c:d:e:f:g:h:i:j:", "**  :k:l:m:n:o:p:q:r:s:", "*** d :t:u:v:w:x:y:z:", "@0");
        is.due("all 26", 2, () -> all.agenda(0, ALL, 0, 0));
    }

    private static void agendaButTags() {
        is.promise(18, "and none of another one");
        Outlinery x = Checks.text("* a :a:", "@5", "** b :b:z:", "@5", "* c", "@5");
        int[][] asked = {{0, A, 0, 2}, {0, A, 1, -1}, {0, B, 0, 0}, {0, B, 1, 2}, {0, Z, 1, 2}, {0, A + Z, 0, 2}, {0, 4, 2, 2},
            {0, ALL, 0, 2}, {A, B, 0, 0}, {A, B, 1, -1}, {A, A, 0, -1}, {B, A, 0, -1}, {B, 4, 0, 1}, {ALL, ALL, 0, -1}};
        for (int[] ask : asked) {
            is.due("with " + ask[0] + ", but " + ask[1] + ", place " + ask[2], ask[3],
                () -> x.agenda(5, ask[0], ask[1], ask[2]));
        }
    }

    private static void agendaPlaces() {
        is.promise(18, "Returns its number, NONE if there are not so many");
        Outlinery x = Checks.text("* a", "* b", "@5", "* c", "* d", "@5");
        is.due("place 0", 1, () -> x.agenda(5, 0, 0, 0));
        is.due("place 1", 3, () -> x.agenda(5, 0, 0, 1));
        is.dueEach("place", -1, place -> x.agenda(5, 0, 0, place), 2, 3, 59, 60, MAX - 1, MAX);
        is.due("none at all", -1, () -> x.agenda(4, 0, 0, 0));
        Outlinery many = new Outlinery();
        for (int i = 0; i < 30; i++) {
            Checks.put(many, "* ", "@0");
        }
        is.due("place 29 of 30", 29, () -> many.agenda(0, 0, 0, 29));
        is.due("place 30 of 30", -1, () -> many.agenda(0, 0, 0, 30));
    }

    private static void agendaOfNoPlace() {
        is.promise(18, "Throws IndexOutOfBoundsException if place is below 0");
        is.refusedEach("place", Checks.NO_SUCH, DATED, (x, place) -> x.agenda(5, 0, 0, place), -1, -2, MIN);
        is.refusedEach("place, without lines", Checks.NO_SUCH, Outlinery::new, (x, place) -> x.agenda(5, 0, 0, place), -1, MIN);
    }

    private static void agendaOutOfRange() {
        is.promise(18, "Throws IllegalArgumentException if day, with or but is out of range");
        is.refusedEach("day", Checks.OUT_OF_RANGE, DATED, (x, day) -> x.agenda(day, 0, 0, 0), -1, 10000, MIN, MAX);
        is.refusedEach("with", Checks.OUT_OF_RANGE, DATED, (x, with) -> x.agenda(5, with, 0, 0), -1, 1 << 26, MIN, MAX);
        is.refusedEach("but", Checks.OUT_OF_RANGE, DATED, (x, but) -> x.agenda(5, 0, but, 0), -1, 1 << 26, MIN, MAX);
        is.refusedEach("but, without lines", Checks.OUT_OF_RANGE, Outlinery::new, (x, but) -> x.agenda(5, 0, but, 0), -1, 1 << 26);
        Outlinery x = DATED.make();
        is.dueEach("day", 0, day -> x.agenda(day, 0, 0, 0), 0, 1, 9998, 9999);
        is.due("with 2^26 - 1", -1, () -> x.agenda(5, ALL, 0, 0));
        is.due("but 2^26 - 1", -1, () -> x.agenda(5, 0, ALL, 0));
        is.due("but 2^26 - 2", 0, () -> x.agenda(5, 0, ALL - 1, 0));
    }

    private static void agendaThrowsFirst() {
        is.promise(18, "If several exceptions apply, the one that is documented first is thrown");
        is.refusedEach("day, of no place", Checks.NO_SUCH, DATED, (x, day) -> x.agenda(day, 0, 0, -1), -1, 10000, MIN, MAX);
        is.refusedEach("with, of no place", Checks.NO_SUCH, DATED, (x, with) -> x.agenda(0, with, 0, MIN), -1, 1 << 26);
        is.refusedEach("but, of no place", Checks.NO_SUCH, DATED, (x, but) -> x.agenda(0, 0, but, -1), -1, 1 << 26);
        is.refusedEach("all, of a place", Checks.OUT_OF_RANGE, DATED, (x, all) -> x.agenda(all, all, all, 0), -1, MIN, MAX);
    }

    // ---- pass

    private static void passFrom0() {
        is.promise(19, "Lets time go by, from 0 at first. Returns now");
        Outlinery x = new Outlinery();
        is.due("1, the smallest one", 1, () -> x.pass(1));
        is.due("2", 3, () -> x.pass(2));
        is.due("500, the largest one", 503, () -> x.pass(500));
        x.today(9);
        is.due("today is another thing", 504, () -> x.pass(1));
        is.due("500 at first", 500, () -> new Outlinery().pass(500));
    }

    private static void passOf1To500() {
        is.promise(19, "Throws IllegalArgumentException if time is out of range");
        is.refusedEach("time", Checks.OUT_OF_RANGE, () -> onDay5("* a", "%1-"), (x, time) -> x.pass(time), 0, 501, -1, MIN, MAX);
        is.refusedEach("time, at first", Checks.OUT_OF_RANGE, Outlinery::new, (x, time) -> x.pass(time), 0, 501, -1, MIN, MAX);
    }

    private static Outlinery at(int now) {
        Outlinery x = Checks.text("* a", "%1-");
        for (int left = now; left > 0; left -= 500) {
            x.pass(Math.min(500, left));
        }
        return x;
    }

    private static void passUpTo9999() {
        is.promise(19, "Throws IllegalStateException if it would be above 9999");
        is.due("9999", 9999, () -> at(9998).pass(1));
        is.due("9999 by 500", 9999, () -> at(9499).pass(500));
        is.refused("10000", Checks.CANNOT, () -> at(9999), x -> x.pass(1));
        is.refused("10000 by 500", Checks.CANNOT, () -> at(9500), x -> x.pass(500));
        is.refused("10499", Checks.CANNOT, () -> at(9999), x -> x.pass(500));
        Outlinery x = at(9998);
        is.cannot("10000 by 2", () -> x.pass(2));
        is.due("9999 then", 9999, () -> x.pass(1));
        is.due("a clock of 9999", "1 %9999-", () -> x.clockIn(0) + " " + Checks.lineOf(x, 1));
        is.promise(19, "If several exceptions apply, the one that is documented first is thrown");
        is.refusedEach("time, at 9999", Checks.OUT_OF_RANGE, () -> at(9999), (y, time) -> y.pass(time), 501, 0, -1, MIN, MAX);
    }

    // ---- clockIn

    private static void clockInFromNow() {
        is.promise(20, "To clock in is to put a line CLOCK that runs, from now, behind the heading; now is 0 at first");
        Outlinery x = Checks.text("ahead", "* a", ":a:1", "** b");
        is.due("at first", 0, () -> x.clockIn(0));
        is.dueLines("from 0", x, "ahead", "* a", "%0-", ":a:1", "** b");
        x.pass(10);
        is.due("another one", 1, () -> x.clockIn(1));
        is.dueLines("from 10", x, "ahead", "* a", "%0-10", ":a:1", "** b", "%10-");
        is.due("the same one at once", 1, () -> x.clockIn(1));
        is.dueLines("from 10 again", x, "ahead", "* a", "%0-10", ":a:1", "** b", "%10-", "%10-10");
    }

    private static void clockInEndsAll() {
        is.promise(20, "All clocks that run anywhere are ended ahead of that, as by clocking out. Returns how many clocks were ended");
        Outlinery x = Checks.text("%1-", "* a", "%2-", "%3-", "%4-5", "x", "%05-", "** b", ":a:1", "%6-", "* c");
        x.pass(9);
        is.due("four", 4, () -> x.clockIn(1));
        is.dueLines("four", x, "%1-9", "* a", "%2-9", "%3-9", "%4-5", "x", "%05-", "** b", "%9-", ":a:1", "%6-9", "* c");
        is.due("none", 0, () -> Checks.text("* a", "%0-0").clockIn(0));
        Outlinery many = Checks.fill(Checks.text("* a"), 1, 59);
        for (int i = 0; i < 58; i++) {
            Checks.write(many, i + 1, "%0-");
        }
        is.due("58", 58, () -> many.clockIn(0));
        is.due("60 lines", 60, many::lines);
        Outlinery away = Checks.text("* a", "%0-", "* b");
        away.archive(0);
        is.due("what is in the archive is not in the text", 0, () -> away.clockIn(0));
    }

    private static void clockInNotLessThanItsBegin() {
        is.promise(20, "as by clocking out: ... but not less than its begin");
        Outlinery x = Checks.text("* a", "%6-", "%5-", "%4-", "%9999-");
        x.pass(5);
        is.due("four", 4, () -> x.clockIn(0));
        is.dueLines("four", x, "* a", "%5-", "%6-6", "%5-5", "%4-5", "%9999-9999");
    }

    private static void clockInUpTo60Lines() {
        is.promise(20, "Throws IllegalStateException if there are 60 lines");
        Outlinery x = Checks.fill(Checks.text("* a", "%0-"), 2, 59);
        is.due("59 lines", 1, () -> x.clockIn(0));
        is.due("60 lines", 60, x::lines);
        is.refused("60 lines", Checks.CANNOT, () -> Checks.fill(Checks.text("* a", "%0-"), 2, 60), y -> y.clockIn(0));
    }

    private static void clockInThrows() {
        is.promise(20, "Throws IndexOutOfBoundsException if there is no such entry");
        is.refusedEach("entry", Checks.NO_SUCH, () -> onDay5("%1-", "* a", "%2-"), (x, entry) -> x.clockIn(entry), -1, 1, MIN, MAX);
        is.refusedEach("entry, without headings", Checks.NO_SUCH, () -> Checks.text("%0-"), (x, entry) -> x.clockIn(entry), -1, 0,
            MIN, MAX);
        is.promise(20, "If several exceptions apply, the one that is documented first is thrown");
        is.refusedEach("entry, with 60 lines", Checks.NO_SUCH, () -> Checks.fill(Checks.text("* a", "%0-"), 1, 60),
            (x, entry) -> x.clockIn(entry), -1, 1, MIN, MAX);
    }

    // ---- clockOut

    private static Object clockedOut(int now, int idle, String... lines) {
        Outlinery x = Checks.text(lines);
        for (int left = now; left > 0; left -= 500) {
            x.pass(Math.min(500, left));
        }
        return x.clockOut(idle) + " " + Checks.linesOf(x);
    }

    private static void clockOutLessIdle() {
        is.promise(21, "To clock out is to put now less an idle time behind its \"-\"");
        is.due("0, the smallest one", "1 [%3-10]", () -> clockedOut(10, 0, "%3-"));
        is.due("1", "1 [%3-9]", () -> clockedOut(10, 1, "%3-"));
        is.due("9999, the largest one", "1 [%0-0]", () -> clockedOut(9999, 9999, "%0-"));
        is.due("9998", "1 [%0-1]", () -> clockedOut(9999, 9998, "%0-"));
        is.due("9999 is now", "1 [* a, %9999-9999]", () -> clockedOut(9999, 0, "* a", "%9999-"));
        is.due("0 is now", "1 [%0-0]", () -> clockedOut(0, 0, "%0-"));
        is.promise(21, "Returns how many clocks are ended");
        is.due("three", "3 [%1-8, * a, %2-8, %3-4, ** b, x, %5-8]",
            () -> clockedOut(10, 2, "%1-", "* a", "%2-", "%3-4", "** b", "x", "%5-"));
    }

    private static void clockOutNotLessThanItsBegin() {
        is.promise(21, "but not less than its begin");
        is.due("its begin is one less", "1 [%4-5]", () -> clockedOut(10, 5, "%4-"));
        is.due("its begin", "1 [%5-5]", () -> clockedOut(10, 5, "%5-"));
        is.due("its begin is one more", "1 [%6-6]", () -> clockedOut(10, 5, "%6-"));
        is.due("its begin is behind now", "1 [%11-11]", () -> clockedOut(10, 0, "%11-"));
        is.due("below 0", "1 [%0-0]", () -> clockedOut(10, 11, "%0-"));
        is.due("far below 0", "2 [%0-0, %9-9]", () -> clockedOut(0, 9999, "%0-", "%9-"));
    }

    private static void clockOutOfNone() {
        is.promise(21, "Returns how many clocks are ended");
        is.due("without lines", 0, () -> new Outlinery().clockOut(0));
        is.due("none runs", "0 [%1-2, %0, * %1-, %1- ]", () -> clockedOut(5, 0, "%1-2", "%0", "* %1-", "%1- "));
        Outlinery x = Checks.text("%1-");
        is.due("one", 1, () -> x.clockOut(0));
        is.due("and then none", 0, () -> x.clockOut(0));
    }

    private static void clockOutThrows() {
        is.promise(21, "Throws IllegalArgumentException if idle is out of range: 0 to 9999");
        is.refusedEach("idle", Checks.OUT_OF_RANGE, () -> onDay5("* a", "%1-"), (x, idle) -> x.clockOut(idle), -1, 10000, MIN, MAX);
        is.refusedEach("idle, without clocks", Checks.OUT_OF_RANGE, Outlinery::new, (x, idle) -> x.clockOut(idle), -1, 10000, MIN,
            MAX);
    }

    // ---- clocked

    private static void clockedOfThoseThatDoNotRun() {
        is.promise(22, "Entries with clocks have their times, of clocks that do not run. Returns their sum");
        is.due("without clocks", 0, () -> Checks.text("* a").clocked(0));
        is.due("one that runs", 0, () -> Checks.text("* a", "%5-").clocked(0));
        is.due("one of 0", 0, () -> Checks.text("* a", "%5-5").clocked(0));
        is.due("one of 1", 1, () -> Checks.text("* a", "%5-6").clocked(0));
        is.due("one of 9999", 9999, () -> Checks.text("* a", "%0-9999").clocked(0));
        is.due("several", 115, () -> Checks.text("* a", "%5-10", "%7-", "x", "%5-4", "%10-20", ":a:1", "%0-100").clocked(0));
        Outlinery x = Checks.text("* a", "%5-");
        x.pass(9);
        is.due("it runs", 0, () -> x.clocked(0));
        x.clockOut(1);
        is.due("it runs no more", 3, () -> x.clocked(0));
        Outlinery many = Checks.text("* a");
        for (int i = 0; i < 40; i++) {
            Checks.put(many, "%0-9999");
        }
        is.due("40 of 9999", 399960, () -> many.clocked(0));
    }

    private static void clockedOfAllBelow() {
        is.promise(22, "Returns the times of the clocks of an entry and all below it");
        Outlinery x = Checks.text("%0-1", "* a", "%0-20", "** b", "%0-300", "***** c", "%0-4000", "** d", "* e", "%0-9999");
        int[] times = {4320, 4300, 4000, 0, 9999};
        for (int i = 0; i < times.length; i++) {
            int entry = i;
            is.due("entry " + i, times[i], () -> x.clocked(entry));
        }
        Outlinery last = Checks.fill(Checks.text("* a", "%1-7"), 1, 60);
        is.due("in the last line of 60", 6, () -> last.clocked(0));
    }

    private static void clockedThrows() {
        is.promise(22, "Throws IndexOutOfBoundsException if there is no such entry");
        is.refusedEach("entry", Checks.NO_SUCH, () -> onDay5("* a", "%1-", "* b"), (x, entry) -> x.clocked(entry), -1, 2, MIN, MAX);
        is.refusedEach("entry, without headings", Checks.NO_SUCH, () -> Checks.text("%1-2"), (x, entry) -> x.clocked(entry), -1, 0,
            MIN, MAX);
    }
}

/** Promises 17 to 22: days and clocks. */
public final class DaysTest {
    private static final Checks is = new Checks("DaysTest");

    public static void main(String[] args) {
        today();
        agendaOfOneDay();
        agendaOfRepeats();
        agendaOfStatesAndTags();
        agendaThrows();
        pass();
        clockIn();
        clockInThrows();
        clockOut();
        clocked();
        is.end();
    }

    private static void today() {
        Outlinery x = new Outlinery();
        is.due("at first", 0, () -> x.today(9999));
        is.due("the day before", 9999, () -> x.today(0));
        is.outOfRange("below", () -> x.today(-1));
        is.outOfRange("above", () -> x.today(10000));
        is.due("nothing is changed", 0, () -> x.today(1));
    }

    /** The days from 0 on, up to a last one, on which the first entry is. */
    private static String daysOf(int last, String... lines) {
        Outlinery x = Checks.text(lines);
        StringBuilder days = new StringBuilder();
        for (int i = 0; i <= last; i++) {
            if (x.agenda(i, 0, 0, 0) == 0) {
                days.append(i).append(' ');
            }
        }
        return days.toString().trim();
    }

    private static void agendaOfOneDay() {
        is.due("a day", "5", () -> daysOf(30, "* a", "@5"));
        is.due("a span", "5 6 7", () -> daysOf(30, "* a", "@5-7"));
        is.due("day 0", "0", () -> daysOf(30, "* a", "@0"));
        is.due("no date", "", () -> daysOf(30, "* a", ":a:5", "@5-4"));
        is.due("the first date alone", "9", () -> daysOf(30, "* a", "text", "@9", "@5"));
        is.due("a date of its own alone", "", () -> daysOf(30, "* a", "** b", "@5"));
        is.due("a date ahead of the first entry", "", () -> daysOf(30, "@5", "* a"));
    }

    private static void agendaOfRepeats() {
        is.due("repeats", "5 12 19 26", () -> daysOf(30, "* a", "@5+7"));
        is.due("repeats with +", "5 12 19 26", () -> daysOf(30, "* a", "@5+7+"));
        is.due("repeats with .", "5 12 19 26", () -> daysOf(30, "* a", "@5+7."));
        is.due("spans that repeat", "5 6 12 13 19 20 26 27", () -> daysOf(30, "* a", "@5-6+7"));
        is.due("spans that meet", "5 6 7 8 9 10 11 12", () -> daysOf(12, "* a", "@5-7+3"));
        is.due("spans that overlap", "5 6 7 8 9 10 11 12", () -> daysOf(12, "* a", "@5-9+3"));
        is.due("each day", "3 4 5 6 7 8", () -> daysOf(8, "* a", "@3+1"));
        is.due("9999", 0, () -> Checks.text("* a", "@9999+9999").agenda(9999, 0, 0, 0));
        is.due("9998 of 9999", -1, () -> Checks.text("* a", "@0+9999").agenda(9998, 0, 0, 0));
        is.due("9999 of 9999", 0, () -> Checks.text("* a", "@0+9999").agenda(9999, 0, 0, 0));
    }

    private static void agendaOfStatesAndTags() {
        Outlinery x = Checks.text("* TODO a :a:", "@5", "** WAIT b :z:", "@5", "* DONE c :a:", "@5", "* DROP d", "@5",
            "** e :b:", "@5", "* f", "@6");
        int a = 1;
        int b = 2;
        int z = 1 << 25;
        int[][] asked = {{0, 0, 0, 0}, {0, 0, 1, 1}, {0, 0, 2, 4}, {0, 0, 3, -1}, {a, 0, 0, 0}, {a, 0, 1, 1}, {a, 0, 2, -1},
            {z, 0, 0, 1}, {a + z, 0, 0, 1}, {a + b, 0, 0, -1}, {0, a, 0, 4}, {0, z, 0, 0}, {0, z, 1, 4}, {0, b + z, 1, -1},
            {a, z, 0, 0}, {a, z, 1, -1}, {a, a, 0, -1}, {(1 << 26) - 1, 0, 0, -1}, {0, (1 << 26) - 1, 0, -1}};
        for (int[] ask : asked) {
            is.due("agenda(5, " + ask[0] + ", " + ask[1] + ", " + ask[2] + ")", ask[3],
                () -> x.agenda(5, ask[0], ask[1], ask[2]));
        }
        is.due("far behind", -1, () -> x.agenda(5, 0, 0, Integer.MAX_VALUE));
        is.due("another day", 5, () -> x.agenda(6, 0, 0, 0));
        x.state(5, 2);
        is.due("DONE then", -1, () -> x.agenda(6, 0, 0, 0));
    }

    private static void agendaThrows() {
        Outlinery x = Checks.text("* a", "@5");
        is.noSuch("a place below 0", () -> x.agenda(5, 0, 0, -1));
        is.noSuch("a place below 0, ahead of a day", () -> x.agenda(-1, -1, -1, -1));
        is.outOfRange("day -1", () -> x.agenda(-1, 0, 0, 0));
        is.outOfRange("day 10000", () -> x.agenda(10000, 0, 0, 0));
        is.outOfRange("with -1", () -> x.agenda(5, -1, 0, 0));
        is.outOfRange("with 2^26", () -> x.agenda(5, 1 << 26, 0, 0));
        is.outOfRange("but -1", () -> x.agenda(5, 0, -1, 0));
        is.outOfRange("but 2^26", () -> x.agenda(5, 0, 1 << 26, 0));
        is.due("day 0", -1, () -> x.agenda(0, 0, 0, 0));
    }

    private static void pass() {
        Outlinery x = new Outlinery();
        is.due("1", 1, () -> x.pass(1));
        is.due("500", 501, () -> x.pass(500));
        is.outOfRange("0", () -> x.pass(0));
        is.outOfRange("-1", () -> x.pass(-1));
        is.outOfRange("501", () -> x.pass(501));
        for (int i = 0; i < 18; i++) {
            x.pass(500);
        }
        is.cannot("above 9999", () -> x.pass(499));
        is.outOfRange("501 comes ahead of above 9999", () -> x.pass(501));
        is.due("9999", 9999, () -> x.pass(498));
        is.cannot("10000", () -> x.pass(1));
        is.due("today is another thing", 0, () -> x.today(1));
    }

    private static void clockIn() {
        Outlinery x = Checks.text("%3-", "* a", ":p:1", "** b", "%4-");
        x.pass(7);
        is.due("two are ended", 2, () -> x.clockIn(0));
        is.dueLines("clocked in", x, "%3-7", "* a", "%7-", ":p:1", "** b", "%4-7");
        x.pass(500);
        is.due("one is ended", 1, () -> x.clockIn(1));
        is.dueLines("clocked in", x, "%3-7", "* a", "%7-507", ":p:1", "** b", "%507-", "%4-7");
        is.due("again, at once", 1, () -> x.clockIn(1));
        is.dueLines("clocked in", x, "%3-7", "* a", "%7-507", ":p:1", "** b", "%507-", "%507-507", "%4-7");
        Outlinery later = Checks.text("* a", "%9-");
        is.due("one that begins later", 1, () -> later.clockIn(0));
        is.dueLines("not less than its begin", later, "* a", "%0-", "%9-9");
    }

    private static void clockInThrows() {
        Outlinery x = Checks.text("* a", "%0-");
        is.noSuch("no entry", () -> x.clockIn(1));
        is.noSuch("no entry", () -> x.clockIn(-1));
        is.dueLines("nothing is changed", x, "* a", "%0-");
        for (int i = 2; i < 60; i++) {
            x.line(2);
        }
        is.cannot("60 lines", () -> x.clockIn(0));
        is.noSuch("no entry, ahead of 60 lines", () -> x.clockIn(1));
        is.due("the clock runs still", (char) 0, () -> x.signAt(1, 3));
        x.rub(2);
        is.due("the 60th line", 1, () -> x.clockIn(0));
        Outlinery archived = Checks.text("* a", "%0-", "* b");
        archived.archive(0);
        is.due("what is archived is not in the text", 0, () -> archived.clockIn(0));
        archived.clockOut(0);
        archived.bringBack();
        is.dueLines("as it was", archived, "* b", "%0-0", "* a", "%0-");
    }

    private static void clockOut() {
        Outlinery x = Checks.text("%3-", "* a", "%8-", "** b", "%4-5", "%9-", "a%1-");
        x.pass(10);
        is.due("three", 3, () -> x.clockOut(2));
        is.dueLines("clocked out", x, "%3-8", "* a", "%8-8", "** b", "%4-5", "%9-9", "a%1-");
        is.due("none", 0, () -> x.clockOut(2));
        is.outOfRange("-1", () -> x.clockOut(-1));
        is.outOfRange("10000", () -> x.clockOut(10000));
        x.clockIn(1);
        is.due("9999", 1, () -> x.clockOut(9999));
        is.dueLines("not less than its begin", x, "%3-8", "* a", "%8-8", "** b", "%10-10", "%4-5", "%9-9", "a%1-");
        Outlinery large = Checks.text("* a", "%9999-");
        is.due("9999", 1, () -> large.clockOut(0));
        is.dueLines("9999", large, "* a", "%9999-9999");
    }

    private static void clocked() {
        Outlinery x = Checks.text("%0-100", "* a", "%3-7", "%8-", "** b", "%1-1", "%1-11", "*** c", "@1-3", "%5-6", "* d",
            "%0-9999", "%0-9999");
        int[] want = {15, 11, 1, 19998};
        for (int i = 0; i < want.length; i++) {
            int entry = i;
            is.due("clocked(" + i + ")", want[i], () -> x.clocked(entry));
        }
        x.pass(10);
        x.clockOut(0);
        is.due("with one that was ended", 17, () -> x.clocked(0));
        is.noSuch("no entry", () -> x.clocked(4));
        is.noSuch("no entry", () -> x.clocked(-1));
    }
}

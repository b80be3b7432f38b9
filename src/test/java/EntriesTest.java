/** Promises 8 to 16: entries. */
public final class EntriesTest {
    private static final Checks is = new Checks("EntriesTest");

    public static void main(String[] args) {
        entries();
        entryTells();
        entryTellsOfLevels();
        property();
        shift();
        refile();
        refileInOut();
        refileThrows();
        state();
        stateIsDone();
        stateRepeats();
        stateThrows();
        capture();
        captureThrows();
        archive();
        bringBack();
        bringBackUnderWhat();
        largeParts();
        is.end();
    }

    private static void entries() {
        is.due("without headings", 0, () -> Checks.text("a", "*", ":a:1").entries());
        Outlinery x = Checks.text("a", "* b", "", "** c", "*d", "* e");
        is.due("with three", 3, x::entries);
        x.rub(3);
        x.rub(3);
        is.due("with two, and '**'", 2, x::entries);
    }

    private static void entryTells() {
        Outlinery x = Checks.text("ahead", "* TODO a :x:y:", ":o:1", "@5-6+7", "@9", "** b", "** WAIT c :z:", "", "*** d",
            "@3", "* e :a:");
        int[][] want = {{1, 5, 6, 8, 10}, {1, 2, 2, 3, 1}, {-1, 0, 0, 2, -1}, {0, -1, 1, -1, -1}, {3, 0, 1, 0, 0},
            {9, 1, 4, 2, 1}, {3 << 23, 3 << 23, 7 << 23, 7 << 23, 1}, {5, -1, -1, 3, -1}, {1, 1, 2, 1, 2}};
        for (int i = 0; i < want.length; i++) {
            for (int j = 0; j < want[i].length; j++) {
                int what = i;
                int entry = j;
                is.due("entry(" + j + ", " + i + ")", want[i][j], () -> x.entry(entry, what));
            }
        }
        is.noSuch("an entry behind", () -> x.entry(5, 0));
        is.noSuch("an entry below", () -> x.entry(-1, 0));
        is.noSuch("an entry ahead of what", () -> x.entry(5, 9));
        is.outOfRange("what behind", () -> x.entry(0, 9));
        is.outOfRange("what below", () -> x.entry(0, -1));
    }

    private static void entryTellsOfLevels() {
        Outlinery x = Checks.text("*** a", "** b", "***** c", "*** d", "** e", "* f", "***** g");
        int[] parents = {-1, -1, 1, 1, -1, -1, 5};
        int[] ranks = {1, 2, 1, 2, 3, 4, 1};
        int[] below = {0, 2, 0, 0, 0, 1, 0};
        for (int i = 0; i < parents.length; i++) {
            int entry = i;
            is.due("parent of " + i, parents[i], () -> x.entry(entry, 2));
            is.due("rank of " + i, ranks[i], () -> x.entry(entry, 8));
            is.due("below " + i, below[i], () -> x.entry(entry, 4));
        }
    }

    private static void property() {
        Outlinery x = Checks.text(":p:9", "* a", ":p:3", ":p:4", ":q:0", "** b", "x", ":r:7", "** c", ":p:5", "* d");
        is.due("own, the first one", 3, () -> x.property(0, 15, false));
        is.due("inherited", 3, () -> x.property(1, 15, false));
        is.due("own ahead of inherited", 5, () -> x.property(2, 15, false));
        is.due("none, and not that ahead of the first entry", -1, () -> x.property(3, 15, false));
        is.due("0", 0, () -> x.property(1, 16, false));
        is.due("not from below", -1, () -> x.property(0, 17, false));
        is.due("summed", 8, () -> x.property(0, 15, true));
        is.due("summed without inherited ones", 0, () -> x.property(1, 15, true));
        is.due("summed, none", 0, () -> x.property(3, 25, true));
        is.due("summed, from below", 7, () -> x.property(0, 17, true));
        is.noSuch("no entry", () -> x.property(4, 15, false));
        is.noSuch("no entry, ahead of a letter", () -> x.property(-1, 26, false));
        is.outOfRange("letter 26", () -> x.property(0, 26, true));
        is.outOfRange("letter -1", () -> x.property(0, -1, false));
        Outlinery deep = Checks.text("* a", ":p:1", "** b", "*** c", "**** d", "***** e");
        is.due("inherited over four", 1, () -> deep.property(4, 15, false));
    }

    private static void shift() {
        Outlinery x = Checks.text("* a", "*text", "** TODO b :x:", ":p:1", "*** c", "* d");
        is.due("more", 2, () -> x.shift(0, true));
        is.dueLines("shifted", x, "** a", "*text", "*** TODO b :x:", ":p:1", "**** c", "* d");
        is.due("more again", 3, () -> x.shift(0, true));
        is.cannot("six stars", () -> x.shift(0, true));
        is.due("less, inside", 3, () -> x.shift(1, false));
        is.dueLines("shifted", x, "*** a", "*text", "*** TODO b :x:", ":p:1", "**** c", "* d");
        is.cannot("no star", () -> x.shift(3, false));
        is.noSuch("no entry", () -> x.shift(4, false));
        is.noSuch("no entry", () -> x.shift(-1, true));
        is.dueLines("nothing is changed", x, "*** a", "*text", "*** TODO b :x:", ":p:1", "**** c", "* d");
        Outlinery big = Checks.text("* a", "** 45678901234567890123");
        is.due("24 signs", 2, () -> big.shift(0, true));
        is.cannot("25 signs below", () -> big.shift(0, true));
        is.dueLines("nothing is changed", big, "** a", "*** 45678901234567890123");
    }

    private static void refile() {
        Outlinery x = Checks.text("* a", "1", "** b", "2", "* c", "3", "** d", "*** e", "4");
        is.due("behind", 3, () -> x.refile(0, 2, false));
        is.dueLines("refiled", x, "* c", "3", "** d", "*** e", "4", "** a", "1", "*** b", "2");
        is.due("ahead", 3, () -> x.refile(1, 3, false));
        is.dueLines("refiled", x, "* c", "3", "** a", "1", "*** b", "2", "*** d", "**** e", "4");
        is.due("to the parent: the last one there", 4, () -> x.refile(2, 1, false));
        is.dueLines("refiled", x, "* c", "3", "** a", "1", "*** d", "**** e", "4", "*** b", "2");
        is.due("to the parent of the parent", 4, () -> x.refile(3, 0, false));
        is.dueLines("refiled", x, "* c", "3", "** a", "1", "*** d", "*** b", "2", "** e", "4");
        is.due("where it is", 4, () -> x.refile(4, 0, false));
        is.dueLines("refiled", x, "* c", "3", "** a", "1", "*** d", "*** b", "2", "** e", "4");
    }

    private static void refileInOut() {
        Outlinery x = Checks.text("* a", "1", "** b", "* c");
        is.due("a copy", 3, () -> x.refile(0, 2, true));
        is.dueLines("a copy", x, "* a", "1", "** b", "* c", "** a", "1", "*** b");
        is.due("a copy ahead", 2, () -> x.refile(2, 0, true));
        is.dueLines("a copy ahead", x, "* a", "1", "** b", "** c", "*** a", "1", "**** b", "* c", "** a", "1", "*** b");
        Outlinery up = Checks.text("* a", "***** b", "*text", "* c");
        is.due("a smaller part then", 8, () -> x.refile(7, 5, true));
        is.dueLines("a smaller part then", x, "* a", "1", "** b", "** c", "*** a", "1", "**** b", "* c", "** a", "1",
            "*** b", "** b");
        is.due("with less stars", 2, () -> up.refile(1, 2, false));
        is.dueLines("with less stars", up, "* a", "* c", "** b", "*text");
    }

    private static void refileThrows() {
        Outlinery x = Checks.text("* a", "** b", "*** c", "***** d", "* e", "** f");
        is.cannot("to itself", () -> x.refile(0, 0, false));
        is.cannot("below itself", () -> x.refile(0, 2, true));
        is.cannot("six stars at once", () -> x.refile(4, 3, false));
        is.cannot("six stars below", () -> x.refile(0, 4, false));
        is.noSuch("no entry", () -> x.refile(6, 0, false));
        is.noSuch("no entry", () -> x.refile(-1, 0, false));
        is.noSuch("no other", () -> x.refile(0, 6, false));
        is.noSuch("no other", () -> x.refile(0, -1, true));
        is.dueLines("nothing is changed", x, "* a", "** b", "*** c", "***** d", "* e", "** f");
        is.due("five stars", 4, () -> x.refile(4, 2, true));
        Outlinery flat = Checks.text("* a", "** b", "* c");
        is.cannot("below itself, with stars enough", () -> flat.refile(0, 1, true));
        is.cannot("to itself, with stars enough", () -> flat.refile(0, 0, true));
        is.due("to another one", 2, () -> flat.refile(2, 0, false));
        Outlinery big = Checks.text("* a", "** 456789012345678901234", "* c", "* 3456789012345678901234");
        is.cannot("25 signs", () -> big.refile(3, 0, false));
        is.cannot("25 signs below", () -> big.refile(0, 2, false));
        Outlinery full = Checks.text("* a", "** b");
        for (int i = 0; i < 57; i++) {
            full.line(2);
        }
        is.due("59 lines", 59, full::lines);
        is.cannot("a part that is too many", () -> full.refile(1, 0, true));
        is.due("a part that moves is not", 1, () -> full.refile(1, 0, false));
        full.line(1);
        is.due("60 lines", 1, () -> full.refile(1, 0, false));
        Outlinery fits = Checks.text("* a", "* b");
        for (int i = 0; i < 57; i++) {
            fits.line(1);
        }
        is.due("a copy that fits", 1, () -> fits.refile(1, 0, true));
        is.due("60 lines", 60, fits::lines);
        is.cannot("a copy of one line more", () -> fits.refile(1, 2, true));
    }

    private static void state() {
        Outlinery x = Checks.text("** a :x:", "* TODO WAIT b", "* DROP DONE", "* ", "*  :y:", "* :y:");
        is.due("from none", 1, () -> x.state(0, 1));
        is.due("to another one", 3, () -> x.state(0, 3));
        is.due("to the same one", 3, () -> x.state(0, 3));
        is.due("to none, the title counts", 1, () -> x.state(1, -1));
        is.due("once more", -1, () -> x.state(1, -1));
        is.due("to none, the title does not count without a blank", -1, () -> x.state(2, -1));
        is.due("ahead of it", 0, () -> x.state(2, 0));
        is.due("without a title", 2, () -> x.state(3, 2));
        is.due("with tags alone", 0, () -> x.state(4, 0));
        is.due("with a title like tags", 0, () -> x.state(5, 0));
        is.dueLines("states", x, "** DROP a :x:", "* b", "* TODO DONE", "* DONE ", "* TODO  :y:", "* TODO :y:");
        is.due("tags stay", 1 << 24, () -> x.entry(4, 6));
        is.due("away", -1, () -> x.state(4, -1));
        is.dueLines("away", x, "** DROP a :x:", "* b", "* TODO DONE", "* DONE ", "*  :y:", "* TODO :y:");
    }

    private static void stateIsDone() {
        Outlinery x = Checks.text("* a", ":o:1", "** TODO b", "*** c", "*** WAIT d", "** TODO e", "** DROP f", "* TODO g");
        is.cannot("TODO below", () -> x.state(0, 2));
        is.cannot("WAIT below", () -> x.state(1, 2));
        is.cannot("a TODO ahead, with o", () -> x.state(4, 2));
        is.cannot("a TODO ahead of a DROP, with o", () -> x.state(5, 2));
        is.due("first of its parent, o inherited", 2, () -> x.state(2, 2));
        is.due("behind a DONE", 2, () -> x.state(3, 2));
        is.due("then", 2, () -> x.state(1, 2));
        is.due("then, with a DONE ahead", 2, () -> x.state(4, 2));
        is.due("again", 2, () -> x.state(4, 2));
        is.due("without a parent", 2, () -> x.state(6, 2));
        is.due("at last", 2, () -> x.state(0, 2));
        Outlinery own = Checks.text("* TODO a", "* b", ":o:1", "* TODO c", "** d", ":o:1", "*** WAIT e", "*** f");
        is.due("o of its own is not that of its parent", 2, () -> own.state(1, 2));
        is.cannot("o of its parent", () -> own.state(5, 2));
        is.due("without o one ahead counts not", 0, () -> own.state(3, 0));
        Outlinery other = Checks.text("* a", ":o:1", "** b", ":o:2", "*** TODO c", "*** d", "** TODO e", "** f", "* g",
            ":o:1", "** h");
        is.due("o with 2 ahead of o inherited", 2, () -> other.state(3, 2));
        is.cannot("o with 1", () -> other.state(5, 2));
        is.due("of another parent", 2, () -> other.state(7, 2));
        is.due("WAIT needs nothing", 1, () -> other.state(5, 1));
        is.cannot("a DONE that is DONE is asked as well",
            () -> Checks.text("* DONE a", "** TODO b").state(0, 2));
    }

    private static String repeated(int today, String date) {
        Outlinery x = Checks.text("* WAIT a", date, "@1+1");
        x.today(today);
        return x.state(0, 2) + " " + Checks.lineOf(x, 1) + " " + Checks.lineOf(x, 2);
    }

    private static void stateRepeats() {
        is.due("once", "0 @12+7 @1+1", () -> repeated(100, "@5+7"));
        is.due("once, with a last day", "0 @12-14+7 @1+1", () -> repeated(100, "@5-7+7"));
        is.due("above today", "0 @103+7+ @1+1", () -> repeated(100, "@5+7+"));
        is.due("today itself is not above today", "0 @110+7+ @1+1", () -> repeated(103, "@5+7+"));
        is.due("once at least", "0 @117+7+ @1+1", () -> repeated(103, "@110+7+"));
        is.due("from today itself", "0 @110+7+ @1+1", () -> repeated(103, "@103+7+"));
        is.due("with a last day", "0 @103-104+7+ @1+1", () -> repeated(100, "@5-6+7+"));
        is.due("from today", "0 @107+7. @1+1", () -> repeated(100, "@5+7."));
        is.due("from today, back", "0 @7+7. @1+1", () -> repeated(0, "@500+7."));
        is.due("from today, with a last day", "0 @107-109+7. @1+1", () -> repeated(100, "@5-7+7."));
        is.due("a last day that is the day goes", "0 @12+7 @1+1", () -> repeated(0, "@5-5+7"));
        is.due("no distance", "2 @5-6 @1+1", () -> repeated(100, "@5-6"));
        is.due("to 9999", "0 @9999+1 @1+1", () -> repeated(0, "@9998+1"));
        is.due("none to TODO", 0, () -> Checks.text("* a", "@5+7").state(0, 2));
        is.due("not by DROP", 3, () -> Checks.text("* a", "@5+7").state(0, 3));
        is.due("not by a date below", 2, () -> Checks.text("* a", "** b", "@5+7").state(0, 2));
    }

    private static void stateThrows() {
        Outlinery x = Checks.text("* a", "@9999+1", "* TODO b", "@9000-9993+7", "* 34567890123456789",
            "* 345678901234567890", "@5+7", "* WAIT 8901234567890123");
        is.cannot("a day above 9999", () -> x.state(0, 2));
        is.cannot("a last day above 9999", () -> x.state(1, 2));
        is.due("24 signs", 1, () -> x.state(2, 1));
        is.cannot("25 signs", () -> x.state(3, 1));
        is.cannot("25 signs, with a date", () -> x.state(3, 2));
        is.due("to none", -1, () -> x.state(3, -1));
        is.due("to another one", 0, () -> x.state(4, 0));
        is.noSuch("no entry", () -> x.state(5, 0));
        is.noSuch("no entry, ahead of a state", () -> x.state(-1, 9));
        is.outOfRange("state 4", () -> x.state(0, 4));
        is.outOfRange("state -2", () -> x.state(0, -2));
        is.dueLines("nothing is changed", x, "* a", "@9999+1", "* TODO b", "@9000-9993+7", "* WAIT 34567890123456789",
            "* 345678901234567890", "@5+7", "* TODO 8901234567890123");
        x.today(9993);
        is.due("a last day of 9999", "0 @9999+6.", () -> {
            Outlinery y = Checks.text("* a", "@5+6.");
            y.today(9993);
            return y.state(0, 2) + " " + Checks.lineOf(y, 1);
        });
    }

    private static void capture() {
        Outlinery x = Checks.text("ahead", "* TODO ab", "1", "** c", "* a", "2");
        is.due("under the first a", 2, () -> x.capture(0, 25));
        is.due("under c", 2, () -> x.capture(2, 0));
        is.due("at the end", 5, () -> x.capture(1, 1));
        is.dueLines("captured", x, "ahead", "* TODO ab", "1", "** c", "*** TODO a", "** TODO z", "* a", "2", "* TODO b");
        is.due("under a title that was captured", 6, () -> x.capture(1, 2));
        is.due("not by a tag, nor by a state", 0, () -> Checks.text("1").capture(19, 19));
        is.due("level", 2, () -> x.entry(6, 1));
        is.due("in an empty text", 0, () -> new Outlinery().capture(25, 25));
    }

    private static void captureThrows() {
        Outlinery x = Checks.text("***** a");
        is.cannot("six stars", () -> x.capture(0, 0));
        is.outOfRange("under 26", () -> x.capture(26, 0));
        is.outOfRange("under -1", () -> x.capture(-1, 0));
        is.outOfRange("title 26", () -> x.capture(0, 26));
        is.outOfRange("title -1", () -> x.capture(0, -1));
        is.dueLines("nothing is changed", x, "***** a");
        for (int i = 1; i < 59; i++) {
            x.line(i);
        }
        is.due("the 60th line", 1, () -> x.capture(1, 1));
        is.cannot("a 61st line", () -> x.capture(1, 1));
        is.cannot("a 61st line at the end", () -> x.capture(2, 1));
    }

    private static void archive() {
        Outlinery x = Checks.text("ahead", "* a", "1", "** b", "2", "*** c", "* d");
        is.due("first", 1, () -> x.archive(1));
        is.dueLines("archived", x, "ahead", "* a", "1", "* d");
        is.due("second", 2, () -> x.archive(0));
        is.due("third", 3, () -> x.archive(0));
        is.dueLines("archived", x, "ahead");
        is.noSuch("no entry", () -> x.archive(0));
        is.noSuch("no entry", () -> x.archive(-1));
        Checks.put(x, "* e", "* f", "* g");
        is.due("fourth", 4, () -> x.archive(2));
        is.due("fifth", 5, () -> x.archive(1));
        is.cannot("sixth", () -> x.archive(0));
        is.noSuch("no entry ahead of too many", () -> x.archive(1));
        is.dueLines("nothing is changed", x, "ahead", "* e");
    }

    private static void bringBack() {
        Outlinery x = Checks.text("* a", "** b", "2", "*** c", "* d");
        x.archive(1);
        x.archive(1);
        is.due("the last one first", 1, x::bringBack);
        is.dueLines("brought back", x, "* a", "* d");
        x.shift(0, true);
        is.due("then the other one", 0, x::bringBack);
        is.dueLines("as it was, under a", x, "** a", "** b", "2", "*** c", "* d");
        is.cannot("none", x::bringBack);
        x.archive(1);
        for (int i = 0; i < 57; i++) {
            x.line(2);
        }
        is.due("lines", 59, x::lines);
        is.cannot("lines would be too many", x::bringBack);
        is.due("lines", 59, x::lines);
        x.rub(2);
        x.rub(2);
        is.due("60 lines", 0, x::bringBack);
        is.due("60 lines", 60, x::lines);
    }

    /** Puts an entry with a title of one sign, empty lines and one sign more in, and archives it. */
    private static Object archived(Outlinery x, String sign, int lines) {
        Checks.put(x, "* " + sign);
        for (int i = 2; i < lines; i++) {
            x.line(1);
        }
        Checks.put(x, sign);
        return x.archive(0);
    }

    private static void largeParts() {
        Outlinery x = new Outlinery();
        for (int i = 0; i < 4; i++) {
            int part = i;
            is.due("a part of 10 lines", i + 1, () -> archived(x, part + "", 10));
        }
        is.due("a part of 60 lines", 5, () -> archived(x, "4", 60));
        is.due("brought back", 4, x::bringBack);
        is.due("60 lines", 60, x::lines);
        is.due("the first line", '4', () -> x.signAt(0, 2));
        is.due("the last line", '4', () -> x.signAt(59, 0));
        is.cannot("ten more lines", x::bringBack);
        for (int i = 0; i < 63; i++) {
            x.rub(0);
        }
        is.due("a line is left", 1, x::lines);
        for (int i = 3; i >= 0; i--) {
            char sign = (char) ('0' + i);
            int left = i;
            int first = 1 + 10 * (3 - i);
            is.due("brought back", left, x::bringBack);
            is.due("the first line", sign, () -> x.signAt(first, 2));
            is.due("the last line", sign, () -> x.signAt(first + 9, 0));
        }
    }

    private static void bringBackUnderWhat() {
        Outlinery gone = Checks.text("* a", "** b", "* c");
        gone.archive(1);
        Checks.write(gone, 0, "x");
        gone.line(0);
        Checks.write(gone, 0, "* ax");
        gone.bringBack();
        is.dueLines("under the first title that begins so", gone, "* ax", "** b", "* ax", "* c");
        Outlinery none = Checks.text("* a", "** b", "* c");
        none.archive(1);
        none.rub(0);
        none.bringBack();
        is.dueLines("without such a title, at the end", none, "* ", "* c", "** b");
        Outlinery untitled = Checks.text("*  :x:", "** b", "* c");
        untitled.archive(1);
        untitled.bringBack();
        is.dueLines("a parent without a title", untitled, "*  :x:", "* c", "** b");
        Outlinery top = Checks.text("* b", "* b", "1");
        top.archive(0);
        top.bringBack();
        is.dueLines("without a parent", top, "* b", "1", "* b");
        Outlinery sign = Checks.text("* TODO ?", "** b", "*  d", "** e", "* f");
        sign.archive(3);
        sign.archive(1);
        sign.bringBack();
        sign.bringBack();
        is.dueLines("any sign, a blank too", sign, "* TODO ?", "** b", "*  d", "** e", "* f");
    }
}

/** The edges of promises 26 to 29, and of what the document says of includes and the export: a test for each such sentence. */
public final class EdgeExportTest {
    private static final Checks is = new Checks("EdgeExportTest");
    private static final int MIN = Integer.MIN_VALUE;
    private static final int MAX = Integer.MAX_VALUE;

    public static void main(String[] args) {
        linksOfALetter();
        linksAnywhere();
        linksOfText();
        linkToTheFirstEntry();
        linkToNone();
        linkThrows();
        footnotesFrom1To9();
        footnotesAreNumberedAnew();
        footnotesOfText();
        footnotesOfNone();
        exportOfEachKind();
        exportOfHeadings();
        exportOfText();
        exportOfRows();
        exportOfErrors();
        exportOfDropped();
        exportOfDroppedIncludes();
        exportUpTo100Lines();
        exportUpTo100LinesOfIncludes();
        includesOfTheFirstEntry();
        includesOfThePart();
        includesOfNone();
        includesGetStars();
        includesGetStarsThere();
        includesGetFiveStars();
        includesGetNoStars();
        includesThreeDeep();
        includesOfThemselves();
        exportedCounts();
        exportedAtTheFirstOne();
        exportedAtBehindTheLastOne();
        exportedAtNoPlace();
        is.end();
    }

    // ---- links

    private static void linksOfALetter() {
        is.promise(26, "\"[\", a letter from a to z and \"]\"");
        Outlinery x = Checks.text("[a][z]", "* a", "* z", "* `", "* {", "* A", "* 1");
        is.due("a", 0, () -> x.link(0, 0));
        is.due("z", 1, () -> x.link(0, 1));
        for (String link : new String[] {"[`]", "[{]", "[A]", "[Z]", "[1]", "[]", "[ ]", "[aa]", "[a", "a]", "(a)", "{a}", "[ a]",
            "[a ]", "]a[", "["}) {
            is.due("'" + link + "' and a link", 0, () -> Checks.text("x" + link + "[a]", "* a").link(0, 0));
            is.due("'" + link + "' and no link more", -1, () -> Checks.text("x" + link + "[a]", "* a").link(0, 1));
        }
    }

    private static void linksAnywhere() {
        is.promise(26, "anywhere in a line of TEXT. 0 for the first link of the line");
        Outlinery x = Checks.text("[a][b][c][d][a][b][c][d]", "* a", "* b", "* c", "* d");
        for (int i = 0; i < 8; i++) {
            int place = i;
            is.due("place " + i + " of 8, in 24 signs", i % 4, () -> x.link(0, place));
        }
        is.due("at the end of 24 signs", 0, () -> Checks.text("123456789012345678901[a]", "* a").link(0, 0));
        is.due("at the begin", 0, () -> Checks.text("[a]2", "* a").link(0, 0));
        is.due("as the whole line", 0, () -> Checks.text("[a]", "* a").link(0, 0));
        is.due("in brackets", 0, () -> Checks.text("[[a]]", "* a").link(0, 0));
        is.due("behind a bracket, once", -1, () -> Checks.text("[[a]]", "* a").link(0, 1));
        is.due("in line 59", 0, () -> {
            Outlinery y = Checks.fill(Checks.text("* a"), 1, 60);
            Checks.write(y, 59, "[a]");
            return y.link(59, 0);
        });
    }

    private static void linksOfText() {
        is.promise(26, "in a line of TEXT");
        Outlinery x = Checks.text("* a[a]", "* [a] b", ":a:1", "@1", "%1-", "|1", "{a}1", "!a", "", "*[a]");
        for (int i = 0; i < 9; i++) {
            int line = i;
            is.due("line " + i, -1, () -> x.link(line, 0));
        }
        is.due("TEXT", 0, () -> x.link(9, 0));
    }

    private static void linkToTheFirstEntry() {
        is.promise(26, "leads to the first entry whose title begins with the letter");
        Outlinery x = Checks.text("[a][T][t]", "* ba", "* A", "* TODO ab :a:", "* a", "***** t");
        is.due("the first a", 2, () -> x.link(0, 0));
        is.due("a state is no title", 4, () -> x.link(0, 1));
        is.due("an entry behind, ahead, and the own one", 0, () -> Checks.text("* a", "[a]", "* a").link(1, 0));
        is.due("a tag is no title", -1, () -> Checks.text("[a]", "*  :a:").link(0, 0));
        is.due("a title like tags is one of ':'", -1, () -> Checks.text("[a]", "* :a:").link(0, 0));
        is.due("DROP too", 0, () -> Checks.text("[a]", "* DROP a", "* a").link(0, 0));
    }

    private static void linkToNone() {
        is.promise(26, "NONE if there is none, or there are not so many links");
        Outlinery x = Checks.text("[b][a]", "* a", "x", "");
        is.due("there is none", -1, () -> x.link(0, 0));
        is.due("it counts as a link", 0, () -> x.link(0, 1));
        is.dueEach("place", -1, place -> x.link(0, place), 2, 3, 24, MAX - 1, MAX);
        is.dueEach("place, without links", -1, place -> x.link(2, place), 0, 1, MAX);
        is.dueEach("place, without signs", -1, place -> x.link(3, place), 0, 1, MAX);
        is.due("without entries", -1, () -> Checks.text("[a]").link(0, 0));
        is.due("an entry without a title", -1, () -> Checks.text("[a]", "* ", "* TODO ").link(0, 0));
    }

    private static void linkThrows() {
        is.promise(26, "Throws IndexOutOfBoundsException if there is no such line, or place is below 0");
        Checks.Made made = () -> Checks.text("[a]", "* a");
        is.refusedEach("line", Checks.NO_SUCH, made, (x, line) -> x.link(line, 0), -1, 2, MIN, MAX);
        is.refusedEach("place", Checks.NO_SUCH, made, (x, place) -> x.link(0, place), -1, -2, MIN);
        is.refusedEach("place, of a heading", Checks.NO_SUCH, made, (x, place) -> x.link(1, place), -1, MIN);
        is.refusedEach("both", Checks.NO_SUCH, made, (x, both) -> x.link(both, both), -1, MIN);
        is.refusedEach("line, without lines", Checks.NO_SUCH, Outlinery::new, (x, line) -> x.link(line, 0), -1, 0, MIN, MAX);
        is.noSuch("line 60 of 60", () -> Checks.fill(new Outlinery(), 0, 60).link(60, 0));
    }

    // ---- footnotes

    private static Object renumbered(String... lines) {
        Outlinery x = Checks.text(lines);
        return x.renumber() + " " + Checks.linesOf(x);
    }

    private static void footnotesFrom1To9() {
        is.promise(27, "each \"^\" and a digit from 1 to 9");
        is.due("1", "1 [^1]", () -> renumbered("^1"));
        is.due("9", "1 [^1]", () -> renumbered("^9"));
        is.due("0, and what is ahead and behind the digits", "0 [^0^/^:^a^ ^^]", () -> renumbered("^0^/^:^a^ ^^"));
        is.due("0 does not count", "1 [^0^1]", () -> renumbered("^0^7"));
        is.due("a digit behind another one", "1 [^123]", () -> renumbered("^523"));
        is.due("a digit without ^", "0 [5 6^ 7 _8]", () -> renumbered("5 6^ 7 _8"));
        is.due("^ twice", "1 [^^1]", () -> renumbered("^^4"));
        is.due("^ at the end", "1 [a^1^]", () -> renumbered("a^4^"));
        is.due("^ and a digit in two lines", "0 [^, 5]", () -> renumbered("^", "5"));
    }

    private static void footnotesAreNumberedAnew() {
        is.promise(27, "gets the digit that tells the how many-th unlike one it is, from the first one on. Returns how many unlike "
            + "ones there are");
        is.due("nine", "9 [^1^2^3^4^5^6^7^8^9]", () -> renumbered("^9^8^7^6^5^4^3^2^1"));
        is.due("nine, and again", "9 [^1^2^3^4^5^6^7^8^9^9^8^7, ^1]", () -> renumbered("^9^8^7^6^5^4^3^2^1^1^2^3", "^9"));
        is.due("over lines", "3 [x^1, ^2^1, ^3^2]", () -> renumbered("x^2", "^3^2", "^1^3"));
        is.due("like ones", "1 [^1^1, ^1]", () -> renumbered("^2^2", "^2"));
        is.due("two that change", "2 [^1^2^1]", () -> renumbered("^2^1^2"));
        is.due("at the end of 24 signs", "1 [1234567890123456789012^1]", () -> renumbered("1234567890123456789012^7"));
        Outlinery x = Checks.text("^3^2", "^1");
        x.renumber();
        is.due("once more", 3, x::renumber);
        is.dueLines("once more", x, "^1^2", "^3");
        x.line(0);
        Checks.write(x, 0, "^3");
        is.due("with one ahead", 3, x::renumber);
        is.dueLines("with one ahead", x, "^1", "^2^3", "^1");
        Outlinery twice = Checks.text("^5");
        is.due("in the export, ahead of it", '5', () -> twice.exportedAt(0, 1));
        twice.renumber();
        is.due("in the export, behind it", '1', () -> twice.exportedAt(0, 1));
        Outlinery full = Checks.fill(Checks.text("^5"), 0, 60);
        is.due("in line 59", 1, full::renumber);
        is.due("in line 59", '1', () -> full.signAt(59, 1));
    }

    private static void footnotesOfText() {
        is.promise(27, "in lines of TEXT");
        is.due("headings", "1 [* ^5, * TODO a^6, ^1]", () -> renumbered("* ^5", "* TODO a^6", "^7"));
        is.due("lines that are none", "1 [*^1, :a:1^1, |1^1, @1^1]", () -> renumbered("*^5", ":a:1^5", "|1^5", "@1^5"));
        is.due("below an entry", "2 [* a, ^1, ** b, ^2]", () -> renumbered("* a", "^5", "** b", "^4"));
    }

    private static void footnotesOfNone() {
        is.promise(27, "Returns how many unlike ones there are");
        is.due("without lines", 0, () -> new Outlinery().renumber());
        is.due("without signs", "0 [, * , 1]", () -> renumbered("", "* ", "1"));
        is.due("in a heading alone", "0 [* ^5]", () -> renumbered("* ^5"));
    }

    // ---- export

    private static void dueExport(String what, String[] lines, String... want) {
        is.dueExport(what, Checks.text(lines), want);
    }

    private static String[] of(String... lines) {
        return lines;
    }

    private static void exportOfEachKind() {
        is.promise(28, "headings with their stars, a blank and the title; TEXT; rows ...; all other lines are left out");
        dueExport("each kind", of("* TODO a :x:", ":a:1", "@1", "%1-", "%1-2", "|1", "{a}1", "!z", "b"), "* a", "|1", "b");
        dueExport("ahead of the first entry", of(":a:1", "@1", "%1-", "|1", "{a}1", "!z", "b"), "|1", "b");
        dueExport("those alone that are left out", of(":a:1", "@1", "%1-", "{a}1", "!z"));
        is.due("none", 0, () -> new Outlinery().exported());
    }

    private static void exportOfHeadings() {
        is.promise(28, "headings with their stars, a blank and the title");
        dueExport("without a title", of("* ", "***** ", "* TODO ", "*  :a:", "** WAIT  :a:"), "* ", "***** ", "* ", "* ", "** ");
        dueExport("states", of("* TODO a", "* WAIT a", "* DONE a", "* TODO", "* TODO DONE a"), "* a", "* a", "* a", "* TODO",
            "* DONE a");
        dueExport("tags", of("* a :x:", "* a :x:y:", "* :x:", "* a :x: :y:", "* a  :x:"), "* a", "* a", "* :x:", "* a :x:", "* a ");
        dueExport("24 signs", of("* 3456789012345678901234", "***** 789012345678901234"), "* 3456789012345678901234",
            "***** 789012345678901234");
    }

    private static void exportOfText() {
        is.promise(28, "TEXT");
        dueExport("as it is", of("", " ", "abcdefghijklmnopqrstuvwx", "*", "[a]^5", "@01", "", "~"), "", " ",
            "abcdefghijklmnopqrstuvwx", "*", "[a]^5", "@01", "", "~");
        is.due("60 lines without signs", 60, () -> Checks.fill(new Outlinery(), 0, 60).exported());
    }

    private static void exportOfRows() {
        is.promise(28, "rows, a \"|\" ahead of what each cell comes to");
        dueExport("numbers", of("|1|-2|0|-0|9999|-9999"), "|1|-2|0|0|9999|-9999");
        dueExport("sums", of("|=1+2|=a1*a1", "|=Sa|=Sb"), "|3|9", "|3|9");
        dueExport("the longest numbers", of("|=999*1001|=0-999*1001", "|=b1|=b1|=b1|=b1|=b1|=b1"), "|999999|-999999",
            "|-999999|-999999|-999999|-999999|-999999|-999999");
        dueExport("twelve cells", of("|1|2|3|4|5|6|7|8|9|0|1|2"), "|1|2|3|4|5|6|7|8|9|0|1|2");
        dueExport("1000 and 1001", of("|=10*100|=10*100+1|=0-10", "|=100000"), "|1000|1001|-10", "|=100000");
    }

    private static void exportOfErrors() {
        is.promise(28, "an ERROR as \"#\"");
        dueExport("errors", of("|=a1|=e9|=1000*1000|7"), "|#|#|#|7");
        dueExport("one alone", of("|=a1"), "|#");
        dueExport("999999 is none", of("|=999*1001"), "|999999");
    }

    private static void exportOfDropped() {
        is.promise(28, "Entries DROP, with their part, are left out");
        dueExport("with their part", of("0", "* DROP a", "1", "|1", "** b", "2", "*** TODO c", "* d", "3"), "0", "* d", "3");
        dueExport("the last one", of("* a", "** DROP b", "1", "***** c", "2"), "* a");
        dueExport("one in one", of("* a", "** DROP b", "*** DROP c", "1", "** d", "2"), "* a", "** d", "2");
        dueExport("two", of("* DROP a", "1", "* DROP b", "2"));
        dueExport("another state", of("* DONE a", "* WAIT b", "* DROP", "* TODO DROP c"), "* a", "* b", "* DROP", "* DROP c");
        dueExport("an include in it", of("* DROP a", "!b", "* b"), "* b");
        dueExport("cells of it count for others", of("* DROP a", "{k}5", "* b", "|=(k)"), "* b", "|5");
    }

    private static void exportOfDroppedIncludes() {
        is.promise(28, "Entries DROP are left out, also as what an include stands for; one below them can be included");
        dueExport("as what it stands for", of("!a", "x", "* DROP a", "1"), "x");
        dueExport("the first one is DROP, and another one not", of("!a", "* DROP a", "* a", "1"), "* a", "1");
        dueExport("below what it stands for", of("!a", "* a", "** DROP b", "1", "** c"), "* a", "** c", "* a", "** c");
        dueExport("one below", of("!b", "* DROP a", "** b", "1", "** c"), "** b", "1");
        dueExport("one far below", of("* x", "!c", "* DROP a", "** DROP b", "*** c", "1"), "* x", "**** c", "1");
    }

    private static void exportUpTo100Lines() {
        is.promise(28, "At most 100 lines are exported, those behind are left out");
        Outlinery x = Checks.fill(Checks.text("!b", "* b", "1"), 3, 51);
        is.due("2 times 50", 100, x::exported);
        is.due("the last one", (char) 0, () -> x.exportedAt(99, 0));
        is.noSuch("the one behind", () -> x.exportedAt(100, 0));
        Checks.write(x, 50, "z");
        is.due("the last one", 'z', () -> x.exportedAt(99, 0));
        x.line(50);
        is.due("2 times 51", 100, x::exported);
        is.due("the last one is left out", (char) 0, () -> x.exportedAt(99, 0));
        is.due("the last one of the include", 'z', () -> x.exportedAt(50, 0));
        is.noSuch("the one behind", () -> x.exportedAt(100, 0));
        x.rub(49);
        x.rub(49);
        is.due("2 times 49", 98, x::exported);
        is.noSuch("the one behind", () -> x.exportedAt(98, 0));
        is.due("60 lines as such", 60, () -> Checks.fill(new Outlinery(), 0, 60).exported());
    }

    private static void exportUpTo100LinesOfIncludes() {
        is.promise(28, "At most 100 lines are exported, those behind are left out");
        Outlinery x = Checks.text("* a");
        for (int i = 0; i < 59; i++) {
            Checks.put(x, "!a");
        }
        is.due("59 times 59 times 59", 100, x::exported);
        is.due("the first one", '*', () -> x.exportedAt(0, 0));
        is.due("the last one has four stars", '*', () -> x.exportedAt(99, 3));
        is.due("and not five", ' ', () -> x.exportedAt(99, 4));
        is.noSuch("the one behind", () -> x.exportedAt(100, 0));
        Outlinery rows = Checks.fill(Checks.text("!a", "!a", "* a"), 3, 60);
        Checks.write(rows, 59, "|=a1");
        is.due("2 times 58 and 58", 100, rows::exported);
        is.due("a row between", '#', () -> rows.exportedAt(57, 1));
    }

    // ---- includes

    private static void includesOfTheFirstEntry() {
        is.promise(28, "An include stands for the part of the first entry whose title begins with its letter, in an export");
        dueExport("the first one", of("!a", "* ba", "* A", "* TODO ab :b:", "1", "* a", "2"), "* ab", "1", "* ba", "* A", "* ab",
            "1", "* a", "2");
        dueExport("z", of("!z", "* z"), "* z", "* z");
        dueExport("ahead of it", of("* a", "* b", "!a"), "* a", "* b", "** a");
        dueExport("a state is no title", of("!t", "* TODO x", "* t"), "* t", "* x", "* t");
        dueExport("the text is as it was", of("* a", "!b", "* b"), "* a", "** b", "* b");
        Outlinery x = Checks.text("!a", "* a");
        x.exported();
        is.dueLines("in an export alone", x, "!a", "* a");
        is.due("entries", 1, x::entries);
    }

    private static void includesOfThePart() {
        is.promise(28, "An include stands for the part");
        dueExport("with what is below", of("!a", "* a", "1", "** b", "|2", "***** c", "* d"), "* a", "1", "** b", "|2", "***** c",
            "* a", "1", "** b", "|2", "***** c", "* d");
        dueExport("of one below", of("!b", "* a", "** b", "1", "*** c", "** d"), "** b", "1", "*** c", "* a", "** b", "1", "*** c",
            "** d");
        dueExport("without what is left out", of("!a", "* a", ":a:1", "@1", "{k}1", "1"), "* a", "1", "* a", "1");
        dueExport("lines behind the include follow", of("* a", "1", "!b", "2", "* b", "3"), "* a", "1", "** b", "3", "2", "* b", "3");
    }

    private static void includesOfNone() {
        is.promise(28, "they are left out, as those for whose letter there is no entry");
        dueExport("no such entry", of("!b", "1", "* a", "!c", "2"), "1", "* a", "2");
        dueExport("no entry", of("!a", "1"), "1");
        dueExport("entries without a title", of("!a", "* ", "*  :a:", "* TODO "), "* ", "* ", "* ");
        dueExport("TEXT that is none", of("!A", "!ab", "* a"), "!A", "!ab", "* a");
    }

    private static void includesGetStars() {
        is.promise(28, "its headings have as many more stars as the entry in which the include stands has there");
        dueExport("one", of("* a", "!c", "* c", "** d"), "* a", "** c", "*** d", "* c", "** d");
        dueExport("two", of("** a", "!c", "* c", "** d"), "** a", "*** c", "**** d", "* c", "** d");
        dueExport("three, of the entry and not of its parent", of("* a", "*** b", "!c", "* c", "** d"), "* a", "*** b", "**** c",
            "***** d", "* c", "** d");
        dueExport("four", of("**** a", "!c", "* c"), "**** a", "***** c", "* c");
        dueExport("a deep one", of("* a", "!c", "*** c"), "* a", "**** c", "*** c");
        dueExport("without a title", of("* a", "!c", "* c", "** "), "* a", "** c", "*** ", "* c", "** ");
    }

    private static void includesGetStarsThere() {
        is.promise(28, "with those that it got by an include");
        dueExport("one and one", of("* a", "!b", "* b", "!c", "* c"), "* a", "** b", "*** c", "* b", "** c", "* c");
        dueExport("one and two", of("* a", "!b", "* b", "** x", "!c", "* c"), "* a", "** b", "*** x", "**** c", "* b", "** x",
            "*** c", "* c");
        dueExport("two and one", of("** a", "!b", "* b", "!c", "* c"), "** a", "*** b", "**** c", "* b", "** c", "* c");
        dueExport("none and one", of("!b", "* b", "!c", "* c"), "* b", "** c", "* b", "** c", "* c");
        dueExport("one, one and one", of("* a", "!b", "* b", "!c", "* c", "!d", "* d"), "* a", "** b", "*** c", "**** d", "* b",
            "** c", "*** d", "* c", "** d", "* d");
    }

    private static void includesGetFiveStars() {
        is.promise(28, "at most 5 in all");
        dueExport("six", of("***** a", "!c", "* c"), "***** a", "***** c", "* c");
        dueExport("five and six", of("** a", "!c", "*** c", "**** d", "***** e"), "** a", "***** c", "***** d", "***** e", "*** c",
            "**** d", "***** e");
        dueExport("ten", of("***** a", "!c", "***** c"), "***** a", "***** c", "***** c");
        dueExport("by two includes", of("*** a", "!b", "** b", "!c", "** c"), "*** a", "***** b", "***** c", "** b", "**** c",
            "** c");
        dueExport("with a title of 22 signs", of("***** a", "!b", "* b45678901234567890123x"), "***** a",
            "***** b45678901234567890123x", "* b45678901234567890123x");
    }

    private static void includesGetNoStars() {
        is.promise(28, "One that stands ahead of the first entry gives no stars");
        dueExport("ahead", of("!a", "* a", "** b"), "* a", "** b", "* a", "** b");
        dueExport("ahead, five", of("x", "!a", "***** a"), "x", "***** a", "***** a");
        dueExport("one in it gives some", of("!a", "* a", "!b", "* b"), "* a", "** b", "* a", "** b", "* b");
    }

    private static void includesThreeDeep() {
        is.promise(28, "includes in it do so likewise, but not in one another more than 3 deep: then they are left out");
        dueExport("three", of("!a", "* a", "!b", "* b", "!c", "* c"), "* a", "** b", "*** c", "* a", "** b", "*** c", "* b", "** c",
            "* c");
        dueExport("four", of("!a", "* a", "1", "!b", "2", "* b", "3", "!c", "4", "* c", "5", "!d", "6", "* d", "7"),
            "* a", "1", "** b", "3", "*** c", "5", "6", "4", "2",
            "* a", "1", "** b", "3", "*** c", "5", "**** d", "7", "6", "4", "2",
            "* b", "3", "** c", "5", "*** d", "7", "6", "4",
            "* c", "5", "** d", "7", "6",
            "* d", "7");
        dueExport("one beside another is as deep", of("!a", "!a", "* a", "!b", "!b", "* b"), "* a", "** b", "** b", "* a", "** b",
            "** b", "* a", "** b", "** b", "* b");
    }

    private static void includesOfThemselves() {
        is.promise(28, "not in one another more than 3 deep");
        dueExport("itself", of("* a", "1", "!a", "2"), "* a", "1", "** a", "1", "*** a", "1", "**** a", "1", "2", "2", "2", "2");
        dueExport("each other", of("* a", "!b", "* b", "!a"), "* a", "** b", "*** a", "**** b", "* b", "** a", "*** b", "**** a");
        dueExport("the parent", of("* a", "** b", "!a"), "* a", "** b", "*** a", "**** b", "***** a", "***** b", "***** a",
            "***** b");
        dueExport("itself, ahead of all", of("!a", "* a", "!a"), "* a", "** a", "*** a", "* a", "** a", "*** a", "**** a");
    }

    // ---- exported, exportedAt

    private static void exportedCounts() {
        is.promise(28, "Returns how many lines the export has");
        is.due("none", 0, () -> Checks.text(":a:1").exported());
        is.due("one without signs", 1, () -> Checks.text("").exported());
        Outlinery x = Checks.text("* a", "!b", "* b", "1");
        is.due("five", 5, x::exported);
        x.state(1, 3);
        is.due("one", 1, x::exported);
        x.state(1, -1);
        is.due("five again", 5, x::exported);
        x.archive(1);
        is.due("one", 1, x::exported);
        x.rub(1);
        is.due("an include that became TEXT", 2, x::exported);
        x.sign(1, 'z');
        is.due("an include again", 1, x::exported);
    }

    private static void exportedAtTheFirstOne() {
        is.promise(29, "line: 0 for the first one; place: 0 for the first one");
        Outlinery x = Checks.text(":a:1", "* TODO ab :x:", "|=1+2|=a9", "abcdefghijklmnopqrstuvwx");
        String[] want = {"* ab", "|3|#", "abcdefghijklmnopqrstuvwx"};
        for (int i = 0; i < want.length; i++) {
            for (int j = 0; j < want[i].length(); j++) {
                int line = i;
                int place = j;
                is.due("exportedAt(" + i + ", " + j + ")", want[i].charAt(j), () -> x.exportedAt(line, place));
            }
        }
    }

    private static void exportedAtBehindTheLastOne() {
        is.promise(29, "Returns the sign; a 0 behind the last one");
        Outlinery x = Checks.text("* a :x:", "", "|=999*1001|=0-999*1001", "|=b1|=b1|=b1|=b1|=b1|=b1", "x");
        is.dueEach("place, of a heading", (char) 0, place -> x.exportedAt(0, place), 3, 4, 24, 48, MAX - 1, MAX);
        is.dueEach("place, without signs", (char) 0, place -> x.exportedAt(1, place), 0, 1, MAX);
        is.due("the last one of 48", '9', () -> x.exportedAt(3, 47));
        is.dueEach("place, of 48", (char) 0, place -> x.exportedAt(3, place), 48, 49, MAX);
        is.dueEach("place, of the last line", (char) 0, place -> x.exportedAt(4, place), 1, 2, MAX);
    }

    private static void exportedAtNoPlace() {
        is.promise(29, "Throws IndexOutOfBoundsException if there is no such line, or place is below 0");
        Checks.Made made = () -> Checks.text("* a", ":a:1", "b", "{a}1");
        is.refusedEach("line", Checks.NO_SUCH, made, (x, line) -> x.exportedAt(line, 0), -1, 2, 3, MIN, MAX);
        is.refusedEach("place", Checks.NO_SUCH, made, (x, place) -> x.exportedAt(0, place), -1, -2, MIN);
        is.refusedEach("both", Checks.NO_SUCH, made, (x, both) -> x.exportedAt(both, both), -1, MIN);
        is.refusedEach("line, without lines", Checks.NO_SUCH, Outlinery::new, (x, line) -> x.exportedAt(line, 0), -1, 0, MIN, MAX);
        is.refusedEach("line, of an export without", Checks.NO_SUCH, () -> Checks.text("* DROP a", "b"),
            (x, line) -> x.exportedAt(line, 0), -1, 0, 1, MIN, MAX);
    }
}

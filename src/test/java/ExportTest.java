/** Promises 26 to 29: links, footnotes and the export. */
public final class ExportTest {
    private static final Checks is = new Checks("ExportTest");

    public static void main(String[] args) {
        link();
        linkThrows();
        renumber();
        exportOfLines();
        exportOfRows();
        exportOfDropped();
        includes();
        includesOfLevels();
        includesInIncludes();
        includesLeftOut();
        includesOfDropped();
        exportOfManyLines();
        exportedAt();
        is.end();
    }

    private static void link() {
        Outlinery x = Checks.text("[a][b]x[[c]][a", "* b[a]", "** TODO a", "* [c] :x:", "* ca", "[z][A][ab][a]", "|1", "!a",
            "[]][x]");
        int[][] asked = {{0, 0, 1}, {0, 1, 0}, {0, 2, 3}, {0, 3, -1}, {1, 0, -1}, {2, 0, -1}, {3, 0, -1}, {5, 0, -1},
            {5, 1, 1}, {5, 2, -1}, {6, 0, -1}, {7, 0, -1}, {8, 0, -1}, {0, Integer.MAX_VALUE, -1}};
        for (int[] ask : asked) {
            is.due("link(" + ask[0] + ", " + ask[1] + ")", ask[2], () -> x.link(ask[0], ask[1]));
        }
        x.state(0, -1);
        x.archive(1);
        is.due("the first one then", -1, () -> x.link(0, 0));
        Outlinery title = Checks.text("* TODO x", "* T", "* x", "[x][t]");
        is.due("the title, not the state", 0, () -> title.link(3, 0));
        is.due("small letters", -1, () -> title.link(3, 1));
    }

    private static void linkThrows() {
        Outlinery x = Checks.text("[a]", "* a");
        is.noSuch("a line behind", () -> x.link(2, 0));
        is.noSuch("a line below", () -> x.link(-1, 0));
        is.noSuch("a place below 0", () -> x.link(0, -1));
        is.noSuch("a place below 0, in a heading", () -> x.link(1, -1));
        is.due("a link", 0, () -> x.link(0, 0));
    }

    private static void renumber() {
        Outlinery x = Checks.text("a^7b^3", "* t ^9", "^7^9^^1", "^0^", "@5", "^3 3");
        is.due("four", 4, x::renumber);
        is.dueLines("renumbered", x, "a^1b^2", "* t ^9", "^1^3^^4", "^0^", "@5", "^2 3");
        is.due("again", 4, x::renumber);
        is.dueLines("the same", x, "a^1b^2", "* t ^9", "^1^3^^4", "^0^", "@5", "^2 3");
        Outlinery all = Checks.text("^9^8^7^6^5^4^3^2^1^55", "^12");
        is.due("nine", 9, all::renumber);
        is.dueLines("nine", all, "^1^2^3^4^5^6^7^8^9^55", "^92");
        is.due("none", 0, () -> Checks.text("* ^1", "^", "1^").renumber());
        Outlinery exported = Checks.text("^5");
        is.due("ahead of it", '5', () -> exported.exportedAt(0, 1));
        exported.renumber();
        is.due("behind it", '1', () -> exported.exportedAt(0, 1));
    }

    private static void exportOfLines() {
        Outlinery x = Checks.text(" text", "* TODO a b :x:", ":p:1", "@5", "%1-2", "", "|1", "{k}1", "!z", "***** ",
            "*x", "* TODO WAIT");
        is.dueExport("lines", x, " text", "* a b", "", "|1", "***** ", "*x", "* WAIT");
        is.due("lines", 7, x::exported);
        x.sign(0, '!');
        is.due("a line that was changed", '!', () -> x.exportedAt(0, 5));
        Outlinery none = Checks.text(":p:1", "!a");
        is.due("nothing", 0, none::exported);
    }

    private static void exportOfRows() {
        Outlinery x = Checks.text("* a", "|1|-2|=a1+b1|=a9|-0", "|=999*1001|=0-999*1001", "|=b2|=b2|=b2|=b2|=b2|=b2",
            "|1|2|3|4|5|6|7|8|9|0|1|2");
        String row = "|-999999|-999999|-999999|-999999|-999999|-999999";
        is.dueExport("rows", x, "* a", "|1|-2|-1|#|0", "|999999|-999999", row, "|1|2|3|4|5|6|7|8|9|0|1|2");
        is.due("48 signs", (char) 0, () -> x.exportedAt(3, 48));
        is.due("48 signs", '9', () -> x.exportedAt(3, 47));
    }

    private static void exportOfDropped() {
        is.dueExport("DROP", Checks.text("1", "* DROP a", "2", "** b", "3", "* c", "** DROP d", "*** e", "4", "** f",
            "* DROP g", "5"), "1", "* c", "** f");
        is.dueExport("a title like DROP", Checks.text("* DROP", "1", "* TODO DROP x"), "* DROP", "1", "* DROP x");
    }

    private static void includes() {
        is.dueExport("ahead of the first entry", Checks.text("!b", "* a", "* b", "1", "** c", "2"),
            "* b", "1", "** c", "2", "* a", "* b", "1", "** c", "2");
        is.dueExport("in an entry", Checks.text("* a", "!b", "3", "* TODO b :x:", "1", "** c", "|=a1+2|4", "|=:p", ":p:7"),
            "* a", "** b", "1", "*** c", "|#|4", "|7", "3", "* b", "1", "** c", "|#|4", "|7");
        is.dueExport("the first title", Checks.text("* a", "!b", "** b1", "* b2"), "* a", "*** b1", "** b1", "* b2");
        is.dueExport("none", Checks.text("* a", "!z", "!b", "* Z"), "* a", "* Z");
    }

    private static void includesOfLevels() {
        is.dueExport("levels", Checks.text("** a", "!b", "*** c", "!b", "* b", "***** d"),
            "** a", "*** b", "***** d", "*** c", "**** b", "***** d", "* b", "***** d");
        is.dueExport("five at most", Checks.text("***** a", "!b", "**** b", "***** c"),
            "***** a", "***** b", "***** c", "**** b", "***** c");
        is.dueExport("a long title", Checks.text("***** a", "!b", "* b45678901234567890123x"),
            "***** a", "***** b45678901234567890123x", "* b45678901234567890123x");
    }

    private static void includesInIncludes() {
        is.dueExport("with stars by an include", Checks.text("* a", "!b", "* b", "** x", "!c", "* c", "1"),
            "* a", "** b", "*** x", "**** c", "1", "* b", "** x", "*** c", "1", "* c", "1");
        is.dueExport("three deep", Checks.text("!b", "* b", "1", "!c", "* c", "2", "!d", "* d", "3", "!e", "* e", "4"),
            "* b", "1", "** c", "2", "*** d", "3",
            "* b", "1", "** c", "2", "*** d", "3", "**** e", "4",
            "* c", "2", "** d", "3", "*** e", "4",
            "* d", "3", "** e", "4",
            "* e", "4");
        is.dueExport("itself", Checks.text("* a", "1", "!a", "2"),
            "* a", "1", "** a", "1", "*** a", "1", "**** a", "1", "2", "2", "2", "2");
    }

    private static void includesLeftOut() {
        is.dueExport("an include behind is one deep again", Checks.text("!a", "!a", "* a", "!b", "* b"),
            "* a", "** b", "* a", "** b", "* a", "** b", "* b");
        is.dueExport("in each other", Checks.text("* a", "!b", "* b", "!a"),
            "* a", "** b", "*** a", "**** b", "* b", "** a", "*** b", "**** a");
    }

    private static void includesOfDropped() {
        is.dueExport("DROP", Checks.text("!a", "!b", "* DROP a", "** b", "1", "*** DROP c", "2", "*** d", "* e"),
            "** b", "1", "*** d", "* e");
        is.dueExport("the first one is DROP", Checks.text("!a", "* DROP a", "* a"), "* a");
        is.dueExport("in one that is DROP", Checks.text("* DROP a", "!b", "* b"), "* b");
        is.dueExport("below one that is DROP, with its stars", Checks.text("* x", "!b", "* DROP a", "** b", "1"),
            "* x", "*** b", "1");
    }

    private static void exportOfManyLines() {
        Outlinery x = Checks.text("* a", "!b", "!b", "* b");
        for (int i = 0; i < 30; i++) {
            Checks.put(x, i % 10 + "");
        }
        is.due("1 + 31 + 31 + 31", 94, x::exported);
        x.line(0);
        Checks.write(x, 0, "!b");
        is.due("100 at most", 100, x::exported);
        is.due("the last one", '4', () -> x.exportedAt(99, 0));
        is.noSuch("the one behind", () -> x.exportedAt(100, 0));
        x.rub(0);
        x.rub(0);
        x.rub(0);
        is.due("once more", 94, x::exported);
        Outlinery full = Checks.text("* a");
        for (int i = 0; i < 59; i++) {
            Checks.put(full, "!a");
        }
        is.due("includes of includes", 100, full::exported);
    }

    private static void exportedAt() {
        Outlinery x = Checks.text("* TODO ab :x:", ":p:1", "|=1+2", "");
        is.due("the first sign", '*', () -> x.exportedAt(0, 0));
        is.due("the last sign", 'b', () -> x.exportedAt(0, 3));
        is.due("behind it", (char) 0, () -> x.exportedAt(0, 4));
        is.due("far behind it", (char) 0, () -> x.exportedAt(0, Integer.MAX_VALUE));
        is.due("a row", '3', () -> x.exportedAt(1, 1));
        is.due("an empty line", (char) 0, () -> x.exportedAt(2, 0));
        is.noSuch("a line behind", () -> x.exportedAt(3, 0));
        is.noSuch("a line below", () -> x.exportedAt(-1, 0));
        is.noSuch("a place below 0", () -> x.exportedAt(0, -1));
        x.state(0, 3);
        is.noSuch("without lines", () -> x.exportedAt(0, 0));
    }
}

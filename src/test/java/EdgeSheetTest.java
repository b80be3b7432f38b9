/** The edges of promises 23 to 25, and of what the document says of tables and code: a test for each such sentence. */
public final class EdgeSheetTest {
    private static final Checks is = new Checks("EdgeSheetTest");
    private static final int ERROR = 1000000;
    private static final int MIN = Integer.MIN_VALUE;
    private static final int MAX = Integer.MAX_VALUE;
    private static final int K = 'k' - 'a';

    private static final Checks.Made TABLE = () -> {
        Outlinery x = Checks.text("* a", "|1|2", "|3", "* b", "{a}1");
        x.run(0);
        return x;
    };

    public static void main(String[] args) {
        tablesOfRowsThatFollow();
        tablesAheadOfTheFirstEntry();
        tablesAreNumbered();
        rowsAndColumnsAreNumbered();
        cellOfNoEntry();
        cellOfNoTable();
        cellOfNoRow();
        cellOfNoColumn();
        numbersAsCells();
        sumsFromTheLeft();
        cellsOfItsTable();
        columnsAhead();
        columnsWithoutIt();
        propertiesOfTheEntry();
        blocksInCells();
        errorOfACellThatIsNotThere();
        errorOfACellThatNeedsItself();
        errorOfACellOverOthers();
        errorOfSuchATerm();
        errorOutside();
        errorOnTheWay();
        errorBehindEachRow();
        blocksLikewise();
        blocksAsTheyAreNow();
        blocksAreTheFirstLine();
        cellsInBlocks();
        propertiesInBlocks();
        blocksThatNeedThemselves();
        runOutOfRange();
        runOfNone();
        runIsKept();
        runKeepsAnError();
        runKeepsNothingThatItNeeds();
        runKeepsNothingOfNone();
        linesThatAreAsTheyWere();
        linesThatAreOthers();
        linesInTheirOrder();
        allThatWasKeptIsGone();
        goneWhenRunIsCalled();
        runsAreCounted();
        is.end();
    }

    /** What the cells of the first table of the first entry come to, "#" for an ERROR. */
    private static String table(Outlinery x) {
        StringBuilder all = new StringBuilder();
        Object first = Checks.told(() -> x.cell(0, 0, 1, 0));
        for (int i = 1; first instanceof Integer && i < 60; i++) {
            int row = i;
            all.append(i > 1 ? " " : "");
            for (int j = 0; first instanceof Integer && j < 13; j++) {
                int next = j + 1;
                all.append('|').append(first.equals(ERROR) ? "#" : first);
                first = Checks.told(() -> x.cell(0, 0, row, next));
            }
            first = Checks.told(() -> x.cell(0, 0, row + 1, 0));
        }
        return all.toString();
    }

    /** A table below a heading, with lines behind it. */
    private static void due(String what, String want, String... lines) {
        String[] all = new String[lines.length + 1];
        all[0] = "* a";
        System.arraycopy(lines, 0, all, 1, lines.length);
        is.due(what, want, () -> table(Checks.text(all)));
    }

    // ---- tables

    private static void tablesOfRowsThatFollow() {
        is.promise(23, "ROWs that follow one another directly are a table");
        due("one row", "|1", "|1");
        due("two rows", "|1 |2", "|1", "|2");
        for (String between : new String[] {"", "x", ":a:1", "@1", "%1-", "{a}1", "!a", "|", "|1|", "* b"}) {
            due("with '" + between + "' between", "|1 |2", "|1", "|2", between, "|3");
        }
        Outlinery long59 = Checks.text("* a");
        for (int i = 0; i < 59; i++) {
            Checks.put(long59, "|" + i % 10);
        }
        is.due("row 1 of 59", 0, () -> long59.cell(0, 0, 1, 0));
        is.due("row 59 of 59", 8, () -> long59.cell(0, 0, 59, 0));
        is.noSuch("row 60 of 59", () -> long59.cell(0, 0, 60, 0));
    }

    private static void tablesAheadOfTheFirstEntry() {
        is.promise(23, "ROWs are a table, also ahead of the first entry");
        is.dueExport("in the export", Checks.text("|1|=a1+1", "|=Sa", "", "|=a1", "* a"), "|1|2", "|1", "", "|#", "* a");
        is.dueExport("without entries", Checks.text("|=b1|=a2", "|7"), "|7|7", "|7");
        is.noSuch("they are no tables of the first entry", () -> Checks.text("|1", "* a").cell(0, 0, 1, 0));
    }

    private static void tablesAreNumbered() {
        is.promise(23, "the tables of an entry are numbered from 0");
        Outlinery x = Checks.text("|9", "* a", "|1", "", "|2", "x", "|3", "** b", "|4", "* c");
        for (int i = 0; i < 3; i++) {
            int table = i;
            is.due("table " + i, i + 1, () -> x.cell(0, table, 1, 0));
        }
        is.noSuch("table 3", () -> x.cell(0, 3, 1, 0));
        is.due("of the entry below", 4, () -> x.cell(1, 0, 1, 0));
        is.noSuch("of the last one", () -> x.cell(2, 0, 1, 0));
        Outlinery many = Checks.text("* a");
        for (int i = 0; i < 29; i++) {
            Checks.put(many, "|" + i, "");
        }
        is.due("table 28 of 29", 28, () -> many.cell(0, 28, 1, 0));
        is.noSuch("table 29 of 29", () -> many.cell(0, 29, 1, 0));
    }

    private static void rowsAndColumnsAreNumbered() {
        is.promise(23, "rows from 1, columns from a");
        Outlinery x = Checks.text("* a", "|1|2|3|4|5|6|7|8|9|0|1|2", "|20", "|30|31");
        is.due("row 1, column 0", 1, () -> x.cell(0, 0, 1, 0));
        is.due("row 1, column 11", 2, () -> x.cell(0, 0, 1, 11));
        is.due("row 3, column 1", 31, () -> x.cell(0, 0, 3, 1));
        due("a1, e1, a9 and e9", "|1|2|3|4|5 |0 |0 |0 |0 |0 |0 |0 |5|6|7|8|9 |1|5|5|9", "|1|2|3|4|5", "|0", "|0", "|0", "|0",
            "|0", "|0", "|0", "|5|6|7|8|9", "|=a1|=e1|=a9|=e9");
    }

    private static void cellOfNoEntry() {
        is.promise(23, "Throws IndexOutOfBoundsException if there is no such entry");
        is.refusedEach("entry", Checks.NO_SUCH, TABLE, (x, entry) -> x.cell(entry, 0, 1, 0), -1, 2, MIN, MAX);
        is.refusedEach("entry, without headings", Checks.NO_SUCH, () -> Checks.text("|1"), (x, entry) -> x.cell(entry, 0, 1, 0), -1,
            0, MIN, MAX);
    }

    private static void cellOfNoTable() {
        is.promise(23, "Throws IndexOutOfBoundsException if there is no such table");
        is.refusedEach("table", Checks.NO_SUCH, TABLE, (x, table) -> x.cell(0, table, 1, 0), -1, 1, MIN, MAX);
        is.refusedEach("table, of an entry without", Checks.NO_SUCH, TABLE, (x, table) -> x.cell(1, table, 1, 0), -1, 0, MIN, MAX);
    }

    private static void cellOfNoRow() {
        is.promise(23, "Throws IndexOutOfBoundsException if there is no such cell: row, 1 for the first one");
        is.refusedEach("row", Checks.NO_SUCH, TABLE, (x, row) -> x.cell(0, 0, row, 0), 0, 3, -1, 60, 61, MIN, MAX);
        Outlinery full = Checks.fill(Checks.text("* a", "|5"), 1, 60);
        is.due("row 1 in the last line of 60", 5, () -> full.cell(0, 0, 1, 0));
        is.dueEach("row, there", Checks.NO_SUCH, row -> full.cell(0, 0, row, 0), 0, 2, -1, MIN, MAX);
    }

    private static void cellOfNoColumn() {
        is.promise(23, "Throws IndexOutOfBoundsException if there is no such cell: column, 0 for a");
        is.refusedEach("column", Checks.NO_SUCH, TABLE, (x, column) -> x.cell(0, 0, 1, column), -1, 2, MIN, MAX);
        is.refusedEach("column, of a shorter row", Checks.NO_SUCH, TABLE, (x, column) -> x.cell(0, 0, 2, column), -1, 1);
        is.dueEach("column, of 12", Checks.NO_SUCH,
            column -> Checks.text("* a", "|1|2|3|4|5|6|7|8|9|0|1|2", "|1").cell(0, 0, 1, column), -1, 12, 13, MIN, MAX);
        is.dueEach("all", Checks.NO_SUCH, all -> TABLE.make().cell(all, all, all, all), -1, 0, 1, 2, MIN, MAX);
    }

    // ---- what cells come to

    private static void numbersAsCells() {
        is.promise(23, "a cell is a number, \"-\" and a number, or \"=\" and a sum");
        due("numbers", "|0|1|9999", "|0|1|9999");
        due("below 0", "|0|-1|-9999", "|-0|-1|-9999");
        is.dueExport("-1, 0 and 1", Checks.text("|-1|0|1|=0-1"), "|-1|0|1|-1");
        due("sums of one term", "|0|9999|0", "|=0|=9999|=a1");
    }

    private static void sumsFromTheLeft() {
        is.promise(23, "one to six terms with \"+\", \"-\" or \"*\" between them, which are done from the left to the right, each as "
            + "it comes");
        due("plus, then times", "|20", "|=2+3*4");
        due("times, then plus", "|10", "|=2*3+4");
        due("minus, then minus", "|-5", "|=2-3-4");
        due("minus, then plus", "|3", "|=2-3+4");
        due("minus, then times", "|-4", "|=2-3*4");
        due("six", "|20", "|=1+2*3-4+5*2");
        due("one", "|7", "|=7");
        due("two", "|-9998", "|=1-9999");
    }

    private static void cellsOfItsTable() {
        is.promise(23, "A letter and a digit is the cell of that column and row of its table");
        due("ahead, beside and behind", "|5|5 |7|14 |7", "|5|=a1", "|=a3|=a2+a3", "|7");
        due("of another table not", "|1|#", "|1|=a2", "", "|5");
        is.due("of the second table", 8, () -> Checks.text("* a", "|5", "", "|8", "|=a1").cell(0, 1, 2, 0));
        is.due("of a table of another entry not", 6, () -> Checks.text("* a", "|5", "* b", "|6|=a1").cell(1, 0, 1, 1));
    }

    private static void columnsAhead() {
        is.promise(23, "S and a letter is the sum of that column in all rows ahead of the one of the formula");
        due("none ahead", "|0", "|=Sa");
        due("one ahead", "|4 |4", "|4", "|=Sa");
        due("two ahead", "|4 |-1 |3", "|4", "|-1", "|=Sa");
        due("none behind", "|4 |4 |9", "|4", "|=Sa", "|9");
        due("not its own row", "|4|7 |5|7", "|4|7", "|5|=Sb");
        due("sums of sums", "|1 |1 |2 |4 |8", "|1", "|=Sa", "|=Sa", "|=Sa", "|=Sa");
        due("column e", "|1|2|3|4|5 |5", "|1|2|3|4|5", "|=Se");
        due("of its table alone", "|4 |4", "|4", "|=Sa", "", "|8");
        is.due("of the second table", 8, () -> Checks.text("* a", "|5", "", "|8", "|=Sa").cell(0, 1, 2, 0));
        Outlinery many = Checks.text("* a");
        for (int i = 0; i < 45; i++) {
            Checks.put(many, "|1");
        }
        Checks.put(many, "|=Sa");
        is.due("45 rows", 45, () -> many.cell(0, 0, 46, 0));
    }

    private static void columnsWithoutIt() {
        is.promise(23, "those without it left out");
        due("one without it", "|1|5 |2 |3|6 |11", "|1|5", "|2", "|3|6", "|=Sb");
        due("all without it", "|1 |2 |0", "|1", "|2", "|=Sb");
        due("all without it, e", "|1 |0", "|1", "|=Se");
        due("one ahead that needs one behind", "|5 |5 |5", "|=a3", "|=Sa", "|5");
        due("some ahead that need some behind", "|9|1 |8|9 |17|10 |8|1", "|=a2+b1|=b4", "|=a4|=a1", "|=Sa|=Sb", "|8|1");
    }

    private static void propertiesOfTheEntry() {
        is.promise(23, "a property is that of the entry");
        due("of its own", "|7", "|=:p", ":p:7");
        due("0", "|0", ":p:0", "|=:p");
        due("9999", "|9999", "|=:z", ":z:9999");
        due("the first one", "|1", ":p:1", ":p:2", "|=:p");
        is.due("inherited", 7, () -> Checks.text("* a", ":p:7", "** b", "*** c", "|=:p").cell(2, 0, 1, 0));
        due("without one", "|#", "|=:p", ":q:1");
        due("of one below", "|#", "|=:p", "** b", ":p:1");
        is.dueExport("without an entry", Checks.text(":p:1", "|=:p", "* a", ":p:2"), "|#", "* a");
    }

    private static void blocksInCells() {
        is.promise(23, "a letter in ( ) is what the code block tells");
        due("behind", "|12", "|=(k)*2", "{k}1+5");
        due("ahead, z", "|5", "{z}5", "|=(z)");
        due("elsewhere", "|8", "|=(k)", "* b", "{k}:p", ":p:8");
        due("none", "|#", "|=(k)", "{j}1");
        due("below 0", "|-5", "|=(k)", "{k}0-5");
        is.dueExport("ahead of the first entry", Checks.text("|=(k)", "* a", "{k}3"), "|3", "* a");
    }

    // ---- what is an ERROR

    private static void errorOfACellThatIsNotThere() {
        is.promise(23, "A cell that is not there is an ERROR");
        due("a column more", "|1|#", "|1|=c1");
        due("the last column", "|1|1", "|1|=a1");
        due("a row more", "|1|#", "|1|=a2");
        due("row 9", "|#", "|=a9");
        due("a row behind a line between", "|1|#", "|1|=a3", "", "|5");
        due("a line of code where a row would be", "|1|#", "|1|=a2", "{k}5");
        due("a row of another entry", "|1|#", "|1|=a3", "* b", "|5");
        due("a column of a shorter row", "|1|2|# |1", "|1|2|=b2", "|1");
        is.due("ERROR is", 1000000, () -> Checks.text("* a", "|=a9").cell(0, 0, 1, 0));
    }

    private static void errorOfACellThatNeedsItself() {
        is.promise(23, "A cell that is needed by itself over others is an ERROR");
        due("itself", "|#", "|=a1");
        due("over one", "|#|#", "|=b1|=a1");
        due("over two", "|#|#|#", "|=b1|=c1|=a1");
        due("over one of a row behind", "|# |#", "|=a2", "|=a1");
        due("times 0", "|#", "|=0*a1");
        due("less itself", "|#", "|=a1-a1");
        due("over a column", "|# |#", "|=a2", "|=Sa");
        due("over a column of others", "|1|# |#|2 |#", "|1|=a2", "|=a3|2", "|=Sb");
    }

    private static void errorOfACellOverOthers() {
        is.promise(23, "needed by itself over others: one that is not is no ERROR");
        due("twice the same", "|5|10|15", "|5|=a1+a1|=a1+b1");
        due("one beside", "|#|7|8", "|=a1|7|=b1+1");
        due("a long way", "|1|1|1|1|1 |1|1|1|1|1 |1", "|=b1|=c1|=d1|=e1|=e2", "|=a3|=a2|=b2|=c2|=d2", "|1");
        due("a column that is behind it", "|2|2 |3|2", "|2|=a1", "|=a1+1|=Sb");
    }

    private static void errorOfSuchATerm() {
        is.promise(23, "A cell that has a sum with such a term is an ERROR");
        due("as the first term", "|#|#", "|=e9|=a1+1");
        due("as the last term", "|#|#", "|=e9|=1+2+3+4+5+a1");
        due("times 0", "|#|#", "|=e9|=0*a1");
        due("over others", "|#|#|#", "|=e9|=a1|=b1");
        due("one that needs itself", "|#|#|#", "|=a1|=a1|=1+b1");
        due("in a column", "|#|1 |#|1", "|=e9|1", "|=Sa|=Sb");
        due("a block that is one", "|#", "|=(k)", "{k}a1");
        due("a property that is none", "|#", "|=0*:p");
        due("without such a term", "|#|5", "|=e9|5");
    }

    private static void errorOutside() {
        is.promise(23, "A cell that would be outside of -999999 to 999999 is an ERROR");
        due("999999", "|999999", "|=999*1001");
        due("1000000", "|#", "|=1000*1000");
        due("999999 and 1", "|999999|#", "|=999*1001|=a1+1");
        due("999999 and 0", "|999999|999999", "|=999*1001|=a1+0");
        due("-999999", "|-999999", "|=0-999*1001");
        due("-1000000", "|#", "|=0-1000*1000");
        due("-999999 less 1", "|-999999|#", "|=0-999*1001|=a1-1");
        due("999999 times -1", "|999999|-1|-999999", "|=999*1001|-1|=a1*b1");
        due("999999 times 2", "|999999|#", "|=999*1001|=a1*2");
        due("-999999 less 999999, and the other way", "|999999|-999999 |#|#", "|=999*1001|=0-a1", "|=b1-a1|=a1-b1");
        due("2^32, which an int would not see", "|65536|#", "|=256*256|=a1*a1");
        due("-2^32", "|65536|-65536|#", "|=256*256|=0-a1|=a1*b1");
        due("the largest product", "|999999|#", "|=999*1001|=a1*a1");
    }

    private static void errorOnTheWay() {
        is.promise(23, "outside of -999999 to 999999, also on the way");
        due("above, and back", "|#", "|=1000*1000-1");
        due("above, and times 0", "|#", "|=1000*1000*0");
        due("below, and back", "|#", "|=0-1000*1000+1");
        due("far above, and times 0", "|#", "|=9999*9999*9999*0");
        due("as far as can be", "|0", "|=999*1001*0");
        due("as far as can be, below", "|1", "|=0-999*1001*0+1");
        due("999999, one more, one less", "|999999|#", "|=999*1001|=a1+1-1");
        due("999999, one less, one more", "|999999|999999", "|=999*1001|=a1-1+1");
    }

    private static void errorBehindEachRow() {
        is.promise(23, "and behind each row while a column is added");
        due("999999", "|999999 |0 |999999", "|=999*1001", "|0", "|=Sa");
        due("1000000", "|999999 |1 |#", "|=999*1001", "|1", "|=Sa");
        due("1000000, and back", "|999999 |1 |-1 |#", "|=999*1001", "|1", "|-1", "|=Sa");
        due("the other order", "|999999 |-1 |1 |999999", "|=999*1001", "|-1", "|1", "|=Sa");
        due("-999999", "|-999999 |0 |-999999", "|=0-999*1001", "|0", "|=Sa");
        due("-1000000, and back", "|-999999 |-1 |1 |#", "|=0-999*1001", "|-1", "|1", "|=Sa");
        due("a column that fits, and one more", "|999999 |#", "|=999*1001", "|=Sa+1");
        due("a column that fits, less one that is there", "|999999 |999998", "|=999*1001", "|=Sa-1");
    }

    private static void dueRuns(String what, int want, int letter, String... lines) {
        is.due(what, want, () -> Checks.text(lines).run(letter));
    }

    private static void blocksLikewise() {
        is.promise(24, "is an ERROR; a block likewise");
        dueRuns("999999", 999999, 0, "{a}999*1001");
        dueRuns("1000000", ERROR, 0, "{a}1000*1000");
        dueRuns("-999999", -999999, 0, "{a}0-999*1001");
        dueRuns("-1000000", ERROR, 0, "{a}0-1000*1000");
        dueRuns("on the way", ERROR, 0, "{a}1000*1000-1");
        dueRuns("on the way, times 0", ERROR, 0, "{a}9999*9999*9999*0");
        dueRuns("such a term", ERROR, 1, "{a}1000*1000", "{b}0*(a)");
        dueRuns("999999 and 1", ERROR, 1, "{a}999*1001", "{b}(a)+1");
        dueRuns("2^32", ERROR, 1, "{a}256*256", "{b}(a)*(a)");
        dueRuns("none of that letter", ERROR, 1, "{a}1", "{b}");
        dueRuns("from the left to the right", 20, 0, "{a}1+2*3-4+5*2");
    }

    private static void blocksAsTheyAreNow() {
        is.promise(23, "A block that a cell asks for is found as it is now, which is neither kept nor counted");
        Outlinery x = Checks.text("* a", "|=(k)", "{k}1");
        is.due("at first", 1, () -> x.cell(0, 0, 1, 0));
        is.due("not counted", 0, x::runs);
        is.due("run", 1, () -> x.run(K));
        is.due("it was not kept", 1, x::runs);
        x.sign(2, '2');
        is.due("as it is now", 12, () -> x.cell(0, 0, 1, 0));
        is.due("the export too", '2', () -> x.exportedAt(1, 2));
        is.due("not counted", 1, x::runs);
        x.rub(2);
        is.due("what is kept is not gone by that", 1, () -> x.run(K));
        is.due("what is kept is not gone by that", 1, x::runs);
    }

    // ---- code

    private static void blocksAreTheFirstLine() {
        is.promise(24, "A block of code is the first CODE line of the text with its letter");
        dueRuns("the first one", 1, K, "* a", "{k}1", "{k}2", "* b", "{k}3");
        dueRuns("ahead of the first entry", 5, K, "{k}5", "* a", "{k}1");
        dueRuns("in the first line", 1, 0, "{a}1");
        dueRuns("not TEXT", 2, K, "{k}", "{k}01", "{k}1 ", " {k}1", "{k}2");
        dueRuns("not another letter", 2, K, "{j}1", "{k}2", "{l}3");
        is.due("in the last line of 60", 7, () -> Checks.fill(Checks.text("{k}7"), 0, 60).run(K));
        is.due("one ahead of it", 8, () -> {
            Outlinery x = Checks.fill(Checks.text("{k}7"), 0, 60);
            Checks.write(x, 0, "{k}8");
            return x.run(K);
        });
    }

    private static void cellsInBlocks() {
        is.promise(24, "cells are an ERROR in it");
        dueRuns("a cell", ERROR, 0, "* a", "|5", "{a}a1", "|5");
        dueRuns("a cell times 0", ERROR, 0, "* a", "|5", "{a}0*a1");
        dueRuns("a column", ERROR, 0, "* a", "|5", "{a}Sa");
        dueRuns("a column as the last term", ERROR, 0, "* a", "|5", "{a}1+2+3+4+5+Sa");
        dueRuns("ahead of the first entry", ERROR, 0, "{a}e9");
        due("for a cell that asks for it, too", "|5|#", "|5|=(k)", "{k}a1");
    }

    private static void propertiesInBlocks() {
        is.promise(24, "a property is that of the entry in which it stands; without an entry, or such a property, an ERROR");
        dueRuns("of its own", 7, 0, "* a", "{a}:p", ":p:7", ":p:8");
        dueRuns("0", 0, 0, "* a", "{a}:p", ":p:0");
        dueRuns("9999", 9999, 0, "* a", "{a}:z", ":z:9999");
        dueRuns("inherited", 7, 0, "* a", ":p:7", "** b", "*** c", "{a}:p");
        dueRuns("without such a property", ERROR, 0, "* a", "{a}:p", ":q:7", "** b", ":p:1", "* c", ":p:2");
        dueRuns("without an entry", ERROR, 0, ":p:7", "{a}:p", "* a", ":p:8");
        dueRuns("without an entry, times 0", ERROR, 0, ":p:7", "{a}0*:p");
        dueRuns("that of the block which is called", 5, 0, "* a", ":p:7", "{a}(b)", "* b", ":p:5", "{b}:p");
        due("and not that of the cell", "|5", "|=(k)", ":p:7", "* b", ":p:5", "{k}:p");
    }

    private static void blocksThatNeedThemselves() {
        is.promise(24, "A block that needs itself over others is an ERROR");
        dueRuns("itself", ERROR, 0, "{a}(a)");
        dueRuns("itself, times 0", ERROR, 0, "{a}0*(a)");
        dueRuns("over one", ERROR, 0, "{a}(b)", "{b}(a)");
        dueRuns("over one, the other way", ERROR, 1, "{a}(b)", "{b}(a)");
        dueRuns("over two", ERROR, 2, "{a}1+(b)", "{b}1+(c)", "{c}1+(a)");
        dueRuns("one that needs one which does", ERROR, 2, "{a}(b)", "{b}(a)", "{c}1+(a)");
        dueRuns("the first line counts", ERROR, 0, "{a}(a)", "{a}1");
        dueRuns("one beside", 1, 2, "{a}(b)", "{b}(a)", "{c}1");
        dueRuns("one that it needs twice", 4, 0, "{a}(b)+(b)", "{b}2");
        dueRuns("a long way that does not", 9, 0, "{a}(c)", "{c}(b)", "{b}(d)+(e)", "{d}(e)+1", "{e}4");
        Outlinery x = new Outlinery();
        for (char i = 'a'; i < 'z'; i++) {
            Checks.put(x, "{" + i + "}(" + (char) (i + 1) + ")");
        }
        Checks.put(x, "{z}6");
        is.due("over all 26", 6, () -> x.run(0));
        x.rub(25);
        Checks.write(x, 25, "(a)");
        is.due("over all 26, around", ERROR, () -> x.run(0));
        is.due("over all 26, from the last one", ERROR, () -> x.run(25));
    }

    // ---- what is kept

    private static Outlinery withRuns(String... lines) {
        Outlinery x = Checks.text(lines);
        x.run(0);
        x.run(1);
        return x;
    }

    private static void runOutOfRange() {
        is.promise(24, "Throws IllegalArgumentException if letter is out of range: 0 to 25: a to z");
        is.refusedEach("letter", Checks.OUT_OF_RANGE, () -> withRuns("* a", "{a}1", "{b}:p"), (x, letter) -> x.run(letter), -1, 26,
            MIN, MAX);
        is.refusedEach("letter, without lines", Checks.OUT_OF_RANGE, Outlinery::new, (x, letter) -> x.run(letter), -1, 26, MIN, MAX);
        is.refusedEach("letter, with lines that are others", Checks.OUT_OF_RANGE, () -> {
            Outlinery x = withRuns("* a", "{a}1", "{b}2");
            x.sign(2, '3');
            return x;
        }, (x, letter) -> x.run(letter), -1, 26);
        Outlinery x = withRuns("* a", "{a}1");
        x.sign(1, '2');
        is.outOfRange("a refused call", () -> x.run(26));
        x.rub(1);
        is.due("what was kept is not gone by it", 1, () -> x.run(0) + x.runs() - 1);
        is.due("letter 0", 3, () -> Checks.text("{a}3").run(0));
        is.due("letter 25", 4, () -> Checks.text("{z}4").run(25));
    }

    private static void runOfNone() {
        is.promise(24, "Returns what it tells, or ERROR, also if there is none");
        is.dueEach("letter, without lines", ERROR, letter -> new Outlinery().run(letter), 0, 1, 24, 25);
        is.dueEach("letter, without such a block", ERROR, letter -> Checks.text("* a", "{m}1").run(letter), 0, 11, 13, 25);
        is.due("such a block", 1, () -> Checks.text("* a", "{m}1").run(12));
    }

    private static String runThen(Outlinery x, int letter) {
        return x.run(letter) + ", runs " + x.runs();
    }

    private static void runIsKept() {
        is.promise(24, "What run() found of a block is kept: it is not run again");
        Outlinery x = Checks.text("{a}1", "{z}0", "{b}0-7");
        is.due("a", "1, runs 1", () -> runThen(x, 0));
        is.due("a again", "1, runs 1", () -> runThen(x, 0));
        is.due("z", "0, runs 2", () -> runThen(x, 25));
        is.due("z again", "0, runs 2", () -> runThen(x, 25));
        is.due("b", "-7, runs 3", () -> runThen(x, 1));
        is.due("b again", "-7, runs 3", () -> runThen(x, 1));
        is.due("a again", "1, runs 3", () -> runThen(x, 0));
    }

    private static void runKeepsAnError() {
        is.promise(24, "What run() found of a block, an ERROR too, is kept");
        Outlinery x = Checks.text("{a}a1", "{b}(b)", "{c}1000*1000");
        for (int i = 0; i < 3; i++) {
            int letter = i;
            String want = "1000000, runs " + (i + 1);
            is.due("run(" + i + ")", want, () -> runThen(x, letter));
            is.due("run(" + i + ") again", want, () -> runThen(x, letter));
        }
    }

    private static void runKeepsNothingThatItNeeds() {
        is.promise(24, "and of blocks that it needs nothing");
        Outlinery x = Checks.text("{a}(b)+(c)", "{b}1", "{c}(b)");
        is.due("a", "2, runs 1", () -> runThen(x, 0));
        is.due("b", "1, runs 2", () -> runThen(x, 1));
        is.due("c", "1, runs 3", () -> runThen(x, 2));
        is.due("a again", "2, runs 3", () -> runThen(x, 0));
    }

    private static void runKeepsNothingOfNone() {
        is.promise(24, "for a letter without a block nothing is kept, or counted");
        Outlinery x = Checks.text("{a}1", "x");
        is.due("none", "1000000, runs 0", () -> runThen(x, 1));
        is.due("none again", "1000000, runs 0", () -> runThen(x, 1));
        is.due("a", "1, runs 1", () -> runThen(x, 0));
        is.due("none between", "1000000, runs 1", () -> runThen(x, 1));
        is.due("a is kept still", "1, runs 1", () -> runThen(x, 0));
        x.rub(1);
        Checks.write(x, 1, "{b}5");
        is.due("there is one then", "5, runs 2", () -> runThen(x, 1));
    }

    private static void linesThatAreAsTheyWere() {
        is.promise(24, "as long as all lines of the text that are CODE, PROPERTY or HEADING are as they were ... it is not run again");
        Outlinery x = Checks.text("* TODO a", ":a:1", "{a}:a", "x", "|1", "@1+1", "%1-", "!a");
        is.due("at first", "1, runs 1", () -> runThen(x, 0));
        x.sign(3, 'x');
        is.due("another TEXT", "1, runs 1", () -> runThen(x, 0));
        x.sign(4, '1');
        is.due("another ROW", "1, runs 1", () -> runThen(x, 0));
        x.state(0, 2);
        is.due("another DATE", "1, runs 1", () -> runThen(x, 0));
        x.clockIn(0);
        is.due("other CLOCKs", "1, runs 1", () -> runThen(x, 0));
        x.rub(8);
        is.due("TEXT, once an INCLUDE", "1, runs 1", () -> runThen(x, 0));
        x.line(0);
        x.line(4);
        is.due("more lines of TEXT between", "1, runs 1", () -> runThen(x, 0));
        x.today(5);
        x.pass(5);
        is.due("other days and times", "1, runs 1", () -> runThen(x, 0));
        x.sign(3, '2');
        x.rub(3);
        is.due("another PROPERTY that was not seen", "1, runs 1", () -> runThen(x, 0));
        x.archive(0);
        x.bringBack();
        is.due("away and back", "1, runs 1", () -> runThen(x, 0));
        is.due("without lines", "1000000, runs 0", () -> runThen(new Outlinery(), 0));
    }

    /** How often a block was run, if something is done between two calls of run. */
    private static Object runsBetween(Checks.Use change, String... lines) {
        Outlinery x = Checks.text(lines);
        x.run(0);
        change.of(x);
        x.run(0);
        return x.runs();
    }

    private static void linesThatAreOthers() {
        is.promise(24, "when run() is called and they are others, all that was kept is gone");
        String[] lines = {"{a}1", "* a", ":b:1", "{c}2", "* b"};
        is.due("none is another one", 1, () -> runsBetween(x -> 0, lines));
        for (int i = 0; i < lines.length; i++) {
            int line = i;
            is.due("a sign more in line " + i, 2, () -> runsBetween(x -> x.sign(line, '3'), lines));
            is.due("a line more ahead of line " + i, 2, () -> runsBetween(x -> {
                x.line(line);
                Checks.write(x, line, "* ");
                return 0;
            }, lines));
        }
        is.due("a PROPERTY more at the end", 2, () -> runsBetween(x -> put(x, ":z:0"), lines));
        is.due("a CODE more at the end", 2, () -> runsBetween(x -> put(x, "{z}0"), lines));
        is.due("a HEADING more at the end", 2, () -> runsBetween(x -> put(x, "* "), lines));
        is.due("a HEADING less at the end", 2, () -> runsBetween(x -> x.archive(1), lines));
        is.due("a PROPERTY that became TEXT", 2, () -> runsBetween(x -> x.rub(2), lines));
        is.due("another state", 2, () -> runsBetween(x -> x.state(0, 0), lines));
        is.due("another level", 2, () -> runsBetween(x -> x.shift(0, true), lines));
        is.due("another sign at the end of a line", 2, () -> runsBetween(x -> x.rub(4) + x.sign(4, 'c'), lines));
        is.due("a PROPERTY ahead of the first entry", 2, () -> runsBetween(x -> {
            x.line(0);
            Checks.write(x, 0, ":a:1");
            return 0;
        }, lines));
        Outlinery full = Checks.fill(Checks.text("{a}1"), 1, 60);
        full.run(0);
        Checks.write(full, 59, "* ");
        full.run(0);
        is.due("a HEADING in line 59", 2, full::runs);
    }

    private static Object put(Outlinery x, String line) {
        Checks.put(x, line);
        return 0;
    }

    private static void linesInTheirOrder() {
        is.promise(24, "are as they were, in their order");
        is.due("two headings that changed places", 2, () -> runsBetween(x -> x.refile(1, 0, false), "{a}1", "* a", "** b", "** c"));
        is.due("two properties that changed places", 2, () -> runsBetween(x -> {
            x.rub(2);
            x.rub(2);
            x.rub(2);
            x.rub(2);
            x.rub(2);
            x.line(1);
            Checks.write(x, 1, ":q:1");
            return 0;
        }, "{a}1", ":p:1", ":q:1", "* a"));
        is.due("two headings of one title that changed places", 1,
            () -> runsBetween(x -> x.archive(1) + x.bringBack(), "{a}1", "* a", "* a", "* a"));
        is.due("the last one ahead", 2, () -> {
            Outlinery x = Checks.text("{a}1", "* a", "* b", "* c");
            x.run(0);
            x.archive(0);
            x.bringBack();
            x.run(0);
            return x.runs();
        });
    }

    private static void allThatWasKeptIsGone() {
        is.promise(24, "all that was kept is gone");
        Outlinery x = Checks.text("{a}1", "{b}2", "{c}3", "* a");
        x.run(0);
        x.run(1);
        is.due("three", "3, runs 3", () -> runThen(x, 2));
        x.sign(3, 'b');
        is.due("one", "3, runs 4", () -> runThen(x, 2));
        is.due("another one", "1, runs 5", () -> runThen(x, 0));
        is.due("the last one", "2, runs 6", () -> runThen(x, 1));
        is.due("kept again", "2, runs 6", () -> runThen(x, 1));
    }

    private static void goneWhenRunIsCalled() {
        is.promise(24, "when run() is called and they are others");
        Outlinery x = Checks.text("{a}1", "{b}2", "* a");
        x.run(0);
        x.sign(2, 'b');
        x.rub(2);
        is.due("there and back without a run", "1, runs 1", () -> runThen(x, 0));
        x.sign(2, 'b');
        is.due("there, with a run of another one", "2, runs 2", () -> runThen(x, 1));
        x.rub(2);
        is.due("and back: it is gone", "1, runs 3", () -> runThen(x, 0));
        x.sign(2, 'b');
        is.due("there, with a run of a letter without a block", "1000000, runs 3", () -> runThen(x, 2));
        x.rub(2);
        is.due("and back: it is gone", "1, runs 4", () -> runThen(x, 0));
        x.sign(2, 'b');
        x.exported();
        x.entries();
        x.runs();
        x.rub(2);
        is.due("there, with other calls, and back", "1, runs 4", () -> runThen(x, 0));
        x.rub(0);
        Checks.write(x, 0, "9");
        is.due("the block itself", "9, runs 5", () -> runThen(x, 0));
    }

    private static void runsAreCounted() {
        is.promise(25, "Returns how often run() found a block that was not kept");
        Outlinery x = new Outlinery();
        is.due("at first", 0, x::runs);
        for (char i = 'a'; i <= 'z'; i++) {
            Checks.put(x, "{" + i + "}1");
        }
        for (int i = 0; i < 26; i++) {
            int letter = i;
            is.due("block " + i, "1, runs " + (i + 1), () -> runThen(x, letter));
        }
        is.due("all of them are kept", "1, runs 26", () -> runThen(x, 0));
        is.due("all of them are kept", "1, runs 26", () -> runThen(x, 25));
        Outlinery many = Checks.text("{a}1");
        for (int i = 1; i <= 100; i++) {
            many.rub(0);
            many.sign(0, (char) ('0' + i % 10));
            many.run(0);
        }
        is.due("one of 100 that were others", 100, many::runs);
    }
}

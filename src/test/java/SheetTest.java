/** Promises 23 to 25: tables and code. */
public final class SheetTest {
    private static final Checks is = new Checks("SheetTest");
    private static final int ERROR = 1000000;

    public static void main(String[] args) {
        cellsOfNumbers();
        cellsOfSums();
        cellsOfColumns();
        cellsOfOtherThings();
        cellsThatAreErrors();
        cellsThatNeedThemselves();
        cellsOutOfRange();
        cellThrows();
        tables();
        tablesThatChange();
        run();
        runErrors();
        runNeedsItself();
        runs();
        runsKeeps();
        runsForgets();
        is.end();
    }

    /** What the cells of the table of an entry come to, row by row. */
    private static String cells(String... lines) {
        Outlinery x = Checks.text(lines);
        StringBuilder all = new StringBuilder();
        for (int i = 1; i <= lines.length; i++) {
            int row = i;
            StringBuilder cells = new StringBuilder();
            for (int j = 0; j < 12; j++) {
                int column = j;
                Object cell = Checks.told(() -> x.cell(0, 0, row, column));
                if (cell instanceof Integer) {
                    cells.append('|').append(cell.equals(ERROR) ? "#" : cell);
                }
            }
            all.append(cells);
            all.append(cells.length() > 0 ? " " : "");
        }
        return all.toString().trim();
    }

    private static void cellsOfNumbers() {
        is.due("numbers", "|0|9999|0|-9999|7", () -> cells("* a", "|0|9999|-0|-9999|=7"));
        is.due("twelve", "|1|2|3|4|5|6|7|8|9|0|1|2", () -> cells("* a", "|1|2|3|4|5|6|7|8|9|0|1|2"));
    }

    private static void cellsOfSums() {
        is.due("from the left to the right", "|20", () -> cells("* a", "|=2+3*4"));
        is.due("all three", "|-13", () -> cells("* a", "|=2-5*7+8"));
        is.due("six terms", "|21", () -> cells("* a", "|=1+2+3+4+5+6"));
        is.due("other cells", "|3|4|7 |4|7|12", () -> cells("* a", "|3|4|=a1+b1", "|=b1|=c1|=a1*a2"));
        is.due("cells behind", "|9|9 |9", () -> cells("* a", "|=b1|=a2", "|9"));
        is.due("a long way", "|1|1|1|1|1 |1|1|1|1|1", () -> cells("* a", "|=b1|=c1|=d1|=e1|=e2", "|1|=a2|=b2|=c2|=d2"));
        is.due("negative ones", "|-5|-3|15", () -> cells("* a", "|-5|=0-3|=a1*b1"));
        is.due("e9", "|7 |1 |1 |1 |1 |1 |1 |1 |1|2|3|4|7",
            () -> cells("* a", "|=e9", "|1", "|1", "|1", "|1", "|1", "|1", "|1", "|1|2|3|4|7"));
    }

    private static void cellsOfColumns() {
        is.due("rows ahead", "|1|10 |2|20 |3|30 |9|9", () -> cells("* a", "|1|10", "|2|20", "|=Sa|=Sb", "|9|9"));
        is.due("none ahead", "|0|5 |1", () -> cells("* a", "|=Sb|5", "|1"));
        is.due("those without it are left out", "|1 |2|5 |3 |5", () -> cells("* a", "|1", "|2|5", "|=Sa", "|=Sb"));
        is.due("not the own row", "|1|2 |7|2", () -> cells("* a", "|1|2", "|7|=Sb"));
        is.due("a column of formulas", "|1 |2 |3 |6", () -> cells("* a", "|1", "|=a1+1", "|=Sa", "|=Sa"));
        is.due("of another table not", "|0", () -> {
            Outlinery x = Checks.text("* a", "|5", "", "|=Sa");
            return "|" + x.cell(0, 1, 1, 0);
        });
        is.due("of no cell at all", "|1 |0", () -> cells("* a", "|1", "|=Se"));
    }

    private static void cellsOfOtherThings() {
        is.due("a property", "|5", () -> cells("* a", ":p:5", "|=:p"));
        is.due("a property behind", "|5", () -> cells("* a", "|=:p", ":p:5", ":p:6"));
        is.due("an inherited property", 6, () -> Checks.text("* a", ":p:5", "** b", "|=:p+1").cell(1, 0, 1, 0));
        is.due("a property that is not there", "|#", () -> cells("* a", "|=:p", "** b", ":p:5"));
        is.due("a block", "|12", () -> cells("* a", "|=(k)*2", "{k}1+5"));
        is.due("a block elsewhere", "|8", () -> cells("* a", "|=(k)", "* b", "{k}:p", ":p:8"));
        is.due("a block that is not there", "|#", () -> cells("* a", "|=(k)", "{j}1"));
        is.due("the first block", "|1", () -> cells("* a", "|=(k)", "{k}1", "{k}2"));
        is.due("a block that is TEXT", "|2", () -> cells("* a", "|=(k)", "{k}", "{k}2"));
    }

    private static void cellsThatAreErrors() {
        is.due("not there: column", "|1|#", () -> cells("* a", "|1|=c1"));
        is.due("not there: row", "|1|#", () -> cells("* a", "|1|=a2"));
        is.due("not there: in another table", "|1|#", () -> cells("* a", "|1|=a2", "", "|5"));
        is.due("not there: row 3 of a shorter one", "|#|# |1", () -> cells("* a", "|=b2|=a3", "|1"));
        is.due("with such a term", "|#|#|#|#|#", () -> cells("* a", "|=b2|=a1|=1*a1|=b1|=0*d1"));
        is.due("with such a term in a column", "|#|1 |#|1", () -> cells("* a", "|=e9|1", "|=Sa|=Sb"));
        is.due("with a block that is an ERROR", "|#", () -> cells("* a", "|=(k)+1", "{k}a1"));
        is.due("first terms too", "|#|#", () -> cells("* a", "|=e9+1|=e9*0"));
    }

    private static void cellsThatNeedThemselves() {
        is.due("itself", "|#", () -> cells("* a", "|=a1"));
        is.due("itself over another one", "|#|#|7", () -> cells("* a", "|=b1|=a1|7"));
        is.due("itself over others", "|#|#|#|#", () -> cells("* a", "|=b1|=c1|=a1|=a1"));
        is.due("itself over a column", "|# |#", () -> cells("* a", "|=a2", "|=Sa"));
        is.due("itself with nothing left of it", "|#", () -> cells("* a", "|=1+a1*0"));
        is.due("a column behind does not need it", "|1|1 |2|1", () -> cells("* a", "|1|=a1", "|=a1+b1|=Sb"));
    }

    private static void cellsOutOfRange() {
        is.due("999999", "|999999", () -> cells("* a", "|=999*1001"));
        is.due("1000000", "|#", () -> cells("* a", "|=1000*1000"));
        is.due("-999999", "|-999999", () -> cells("* a", "|=0-999*1001"));
        is.due("-1000000", "|#", () -> cells("* a", "|=0-1000*1000"));
        is.due("on the way", "|#", () -> cells("* a", "|=9999*9999*0"));
        is.due("on the way, and back", "|#", () -> cells("* a", "|=1000*1000-1"));
        is.due("very large", "|#", () -> cells("* a", "|=999*999*999*999"));
        is.due("far over", "|998001|#", () -> cells("* a", "|=999*999|=a1*a1"));
        is.due("as a column", "|999999 |0 |999999", () -> cells("* a", "|=999*1001", "|0", "|=Sa"));
        is.due("over as a column", "|999999 |1 |#", () -> cells("* a", "|=999*1001", "|1", "|=Sa"));
        is.due("behind each row", "|999999 |1 |-9 |#", () -> cells("* a", "|=999*1001", "|1", "|-9", "|=Sa"));
        is.due("below behind each row", "|-999999 |-1 |9 |#", () -> cells("* a", "|=0-999*1001", "|-1", "|9", "|=Sa"));
        is.due("a column that fits and then not", "|999999|1 |#|1", () -> cells("* a", "|=999*1001|1", "|=Sa+1|=Sb"));
    }

    private static void cellThrows() {
        Outlinery x = Checks.text("|9", "* a", "|1|2", "|3", "* b");
        is.due("a cell", 2, () -> x.cell(0, 0, 1, 1));
        is.due("a cell", 3, () -> x.cell(0, 0, 2, 0));
        is.noSuch("an entry", () -> x.cell(2, 0, 1, 0));
        is.noSuch("an entry", () -> x.cell(-1, 0, 1, 0));
        is.noSuch("a table", () -> x.cell(0, 1, 1, 0));
        is.noSuch("a table", () -> x.cell(0, -1, 1, 0));
        is.noSuch("a table", () -> x.cell(1, 0, 1, 0));
        is.noSuch("a row", () -> x.cell(0, 0, 0, 0));
        is.noSuch("a row", () -> x.cell(0, 0, 3, 0));
        is.noSuch("a row", () -> x.cell(0, 0, -1, 0));
        is.noSuch("a row", () -> x.cell(0, 0, Integer.MAX_VALUE, 0));
        is.noSuch("a row", () -> x.cell(0, 0, Integer.MIN_VALUE, 0));
        is.noSuch("a column", () -> x.cell(0, 0, 2, 1));
        is.noSuch("a column", () -> x.cell(0, 0, 1, 2));
        is.noSuch("a column", () -> x.cell(0, 0, 1, -1));
        is.noSuch("a column", () -> x.cell(0, 0, 1, Integer.MAX_VALUE));
    }

    private static void tables() {
        Outlinery x = Checks.text("* a", "|1", "text", "|2", "|3", "", "|", "|4", "** b", "|5", "* c", ":p:1", "|6", ":q:1",
            "|7");
        is.due("table 0", 1, () -> x.cell(0, 0, 1, 0));
        is.due("table 1", 3, () -> x.cell(0, 1, 2, 0));
        is.due("table 2", 4, () -> x.cell(0, 2, 1, 0));
        is.noSuch("table 3", () -> x.cell(0, 3, 1, 0));
        is.due("of the entry below", 5, () -> x.cell(1, 0, 1, 0));
        is.noSuch("one more", () -> x.cell(1, 1, 1, 0));
        is.due("behind a property", 6, () -> x.cell(2, 0, 1, 0));
        is.due("behind another one", 7, () -> x.cell(2, 1, 1, 0));
        is.dueExport("a table ahead of the first entry", Checks.text("|1|=a1+1|=:p|=(k)", "|=Sa", "* a", ":p:1", "{k}4"),
            "|1|2|#|4", "|1", "* a");
    }

    private static void tablesThatChange() {
        Outlinery x = Checks.text("* a", "|1|=a1+1|=b1+(k)", "{k}1+2+3", ":p:4");
        for (int i = 3; i <= 9; i++) {
            int want = 5 + i;
            x.rub(2);
            x.sign(2, (char) ('0' + i));
            is.due("with another block", want, () -> x.cell(0, 0, 1, 2));
        }
        x.rub(1);
        is.noSuch("a cell of a line that is TEXT", () -> x.cell(0, 0, 1, 0));
        x.sign(1, ')');
        is.due("a row again", 14, () -> x.cell(0, 0, 1, 2));
        x.line(1);
        Checks.write(x, 1, "|5");
        is.due("with a row ahead", 6, () -> x.cell(0, 0, 2, 1));
    }

    private static void run() {
        Outlinery x = Checks.text("{f}5*5", "{g}:p", "* a", ":p:7", "{k}:p*2+(m)", "{k}1", "** b", "{m}10-(n)", "{n}:p",
            ":p:4", "{o}0-9999");
        is.due("ahead of the first entry", 25, () -> x.run(5));
        is.due("a property without an entry", ERROR, () -> x.run(6));
        is.due("the first one, with others", 20, () -> x.run(10));
        is.due("with a property of its own entry", 6, () -> x.run(12));
        is.due("negative", -9999, () -> x.run(14));
        is.due("none", ERROR, () -> x.run(25));
        is.outOfRange("letter 26", () -> x.run(26));
        is.outOfRange("letter -1", () -> x.run(-1));
        Outlinery inherits = Checks.text("* a", ":p:7", "** b", "{a}:p", "{z}:q");
        is.due("inherited", 7, () -> inherits.run(0));
        is.due("without a property", ERROR, () -> inherits.run(25));
    }

    private static void runErrors() {
        Outlinery x = Checks.text("* a", "|5", "{a}a1", "{b}Sa", "{c}1+(a)", "{d}(z)", "{e}999*1001", "{f}1000*1000",
            "{g}9999*9999*0", "{h}(e)+1", "{i}(e)-1", "{j}0-999*1001-1");
        int[] want = {ERROR, ERROR, ERROR, ERROR, 999999, ERROR, ERROR, ERROR, 999998, ERROR};
        for (int i = 0; i < want.length; i++) {
            int letter = i;
            is.due("run(" + i + ")", want[i], () -> x.run(letter));
        }
    }

    private static void runNeedsItself() {
        Outlinery x = Checks.text("{a}(a)", "{b}(c)", "{c}(b)", "{d}(b)+1", "{e}(f)*0", "{f}(g)", "{g}(e)", "{h}1");
        for (int i = 0; i < 7; i++) {
            int letter = i;
            is.due("run(" + i + ")", ERROR, () -> x.run(letter));
        }
        is.due("another one", 1, () -> x.run(7));
        is.due("runs", 8, x::runs);
    }

    private static void runs() {
        Outlinery x = Checks.text("* a", "{a}1+(b)", "{b}2", "{c}a1", "|=(a)");
        is.due("at first", 0, x::runs);
        x.cell(0, 0, 1, 0);
        x.exported();
        is.due("cells do not count", 0, x::runs);
        x.run(0);
        is.due("one", 1, x::runs);
        x.run(0);
        is.due("kept", 1, x::runs);
        x.run(1);
        is.due("what it needed is not kept", 2, x::runs);
        x.run(2);
        is.due("an ERROR counts", 3, x::runs);
        x.run(2);
        is.due("an ERROR is kept", 3, x::runs);
        x.run(3);
        x.run(3);
        is.due("none does not count", 3, x::runs);
        is.outOfRange("no letter", () -> x.run(26));
        is.due("no letter does not count", 3, x::runs);
    }

    private static int runsThen(Outlinery x) {
        x.run(0);
        return x.runs();
    }

    private static void runsKeeps() {
        Outlinery x = Checks.text("* a", "{a}1", "text", "|1", "@1", "%1-", "!a");
        x.run(0);
        x.sign(2, '!');
        x.rub(6);
        x.rub(6);
        x.line(3);
        x.clockIn(0);
        is.due("other lines do not count", 1, () -> runsThen(x));
        x.sign(1, ' ');
        x.rub(1);
        is.due("there and back", 1, () -> runsThen(x));
        x.state(0, 1);
        x.state(0, -1);
        is.due("there and back", 1, () -> runsThen(x));
        x.archive(0);
        x.bringBack();
        is.due("away and back", 1, () -> runsThen(x));
    }

    private static void runsForgets() {
        Outlinery x = Checks.text("* a", "{a}1", "{b}2", ":p:1", "* b");
        x.run(1);
        is.due("two", 2, () -> runsThen(x));
        x.sign(0, 'x');
        is.due("another heading", 3, () -> runsThen(x));
        x.sign(3, '1');
        is.due("another property", 4, () -> runsThen(x));
        x.sign(2, '0');
        is.due("other code", 5, () -> runsThen(x));
        x.refile(1, 0, false);
        is.due("another level", 6, () -> runsThen(x));
        x.rub(4);
        x.rub(4);
        x.rub(4);
        is.due("one heading less", 7, () -> runsThen(x));
        x.run(1);
        is.due("and the other one", 8, x::runs);
        Checks.put(x, ":p:1");
        is.outOfRange("no letter", () -> x.run(-1));
        x.rub(x.lines() - 1);
        x.rub(x.lines() - 1);
        x.rub(x.lines() - 1);
        is.due("an exception forgets nothing", 8, () -> runsThen(x));
        Checks.put(x, ":q:1");
        is.due("none", ERROR, () -> x.run(25));
        x.rub(x.lines() - 1);
        is.due("a letter without a block forgets, too", 9, () -> runsThen(x));
        Outlinery many = Checks.text("* a", ":p:1", ":q:1", "* b", ":p:1", ":q:1", "* c", ":p:1", ":q:1", "{a}1");
        is.due("one", 1, () -> runsThen(many));
        is.due("ten lines are kept", 1, () -> runsThen(many));
        many.sign(8, '0');
        is.due("one of ten is another one", 2, () -> runsThen(many));
        Outlinery order = Checks.text("* a", ":p:1", ":q:1", "{a}1");
        is.due("one", 1, () -> runsThen(order));
        order.rub(2);
        Checks.write(order, 2, "1");
        is.due("the same", 1, () -> runsThen(order));
        order.line(1);
        Checks.write(order, 1, ":q:1");
        for (int i = 0; i < 5; i++) {
            order.rub(3);
        }
        is.due("another order", 2, () -> runsThen(order));
    }
}

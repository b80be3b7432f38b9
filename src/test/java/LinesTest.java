/** Promises 1 to 7: a new object, and the lines. */
public final class LinesTest {
    private static final Checks is = new Checks("LinesTest");

    public static void main(String[] args) {
        aNewObject();
        line();
        sign();
        rub();
        lines();
        signAt();
        kindOfHeadings();
        kindOfTimes();
        kindOfTables();
        kindOfOthers();
        nothingIsChangedByAnException();
        is.end();
    }

    private static void aNewObject() {
        Outlinery x = new Outlinery();
        is.due("lines of a new object", 0, x::lines);
        is.due("entries of a new object", 0, x::entries);
        is.due("runs of a new object", 0, x::runs);
        is.due("export of a new object", 0, x::exported);
        is.due("footnotes of a new object", 0, x::renumber);
        is.due("clocks of a new object", 0, () -> x.clockOut(0));
        is.due("today of a new object", 0, () -> x.today(5));
        is.due("an agenda of a new object", -1, () -> x.agenda(0, 0, 0, 0));
        is.due("a block of a new object", 1000000, () -> x.run(0));
        is.noSuch("a line of a new object", () -> x.kind(0));
        is.noSuch("an entry of a new object", () -> x.entry(0, 0));
        is.noSuch("a line of its export", () -> x.exportedAt(0, 0));
        is.cannot("its archive", x::bringBack);
        Outlinery other = Checks.text("* a");
        is.due("another object", 0, () -> new Outlinery().lines() + x.lines());
        is.due("another object", 1, other::lines);
    }

    private static void line() {
        Outlinery x = new Outlinery();
        is.noSuch("line(1) without lines", () -> x.line(1));
        is.noSuch("line(-1)", () -> x.line(-1));
        is.due("line(0)", 1, () -> x.line(0));
        Checks.write(x, 0, "b");
        is.due("line(0), ahead of it", 2, () -> x.line(0));
        Checks.write(x, 0, "a");
        is.due("line(2), behind both", 3, () -> x.line(2));
        is.due("line(1), between", 4, () -> x.line(1));
        is.dueLines("lines put in", x, "a", "", "b", "");
        is.noSuch("line(5) of 4", () -> x.line(5));
        is.noSuch("line(MAX)", () -> x.line(Integer.MAX_VALUE));
        is.noSuch("line(MIN)", () -> x.line(Integer.MIN_VALUE));
        for (int i = 4; i < 60; i++) {
            int want = i + 1;
            is.due("line " + i, want, () -> x.line(0));
        }
        is.cannot("a 61st line", () -> x.line(0));
        is.cannot("a 61st line at the end", () -> x.line(60));
        is.noSuch("a line out of range comes ahead of too many", () -> x.line(61));
        is.due("60 lines", 60, x::lines);
    }

    private static void sign() {
        Outlinery x = Checks.text("", "b");
        is.due("the lowest sign", 1, () -> x.sign(0, ' '));
        is.due("the highest sign", 2, () -> x.sign(0, '~'));
        is.outOfRange("31", () -> x.sign(0, (char) 31));
        is.outOfRange("127", () -> x.sign(0, (char) 127));
        is.outOfRange("0", () -> x.sign(0, (char) 0));
        is.outOfRange("65535", () -> x.sign(0, (char) 65535));
        is.noSuch("a line below", () -> x.sign(-1, 'a'));
        is.noSuch("a line behind", () -> x.sign(2, 'a'));
        is.noSuch("a line ahead of a sign", () -> x.sign(2, (char) 31));
        is.dueLines("signs", x, " ~", "b");
        for (int i = 3; i <= 24; i++) {
            int want = i;
            is.due("sign " + i, want, () -> x.sign(0, (char) ('A' + want)));
        }
        is.cannot("a 25th sign", () -> x.sign(0, 'a'));
        is.outOfRange("a sign comes ahead of too many", () -> x.sign(0, (char) 127));
        is.dueLines("24 signs", x, " ~DEFGHIJKLMNOPQRSTUVWXY", "b");
    }

    private static void rub() {
        Outlinery x = Checks.text("ab", "", "c");
        is.due("rub of two", 1, () -> x.rub(0));
        is.due("rub of one", 0, () -> x.rub(0));
        is.due("rub of one", 0, () -> x.rub(2));
        is.dueLines("rubbed", x, "", "", "");
        is.due("rub of none", -1, () -> x.rub(1));
        is.due("lines then", 2, x::lines);
        Checks.write(x, 1, "d");
        is.due("rub of a line between", -1, () -> x.rub(0));
        is.dueLines("rubbed", x, "d");
        is.noSuch("rub behind", () -> x.rub(1));
        is.noSuch("rub below", () -> x.rub(-1));
        x.rub(0);
        x.rub(0);
        is.noSuch("rub without lines", () -> x.rub(0));
    }

    private static void lines() {
        Outlinery x = Checks.text("* a", "", "b");
        is.due("lines", 3, x::lines);
        x.clockIn(0);
        is.due("lines with a clock", 4, x::lines);
        x.archive(0);
        is.due("lines behind an archive", 0, x::lines);
    }

    private static void signAt() {
        Outlinery x = Checks.text("a b", "");
        is.due("the first one", 'a', () -> x.signAt(0, 0));
        is.due("the last one", 'b', () -> x.signAt(0, 2));
        is.due("behind the last one", (char) 0, () -> x.signAt(0, 3));
        is.due("far behind", (char) 0, () -> x.signAt(0, Integer.MAX_VALUE));
        is.due("in an empty line", (char) 0, () -> x.signAt(1, 0));
        is.noSuch("a place below 0", () -> x.signAt(0, -1));
        is.noSuch("a line below", () -> x.signAt(-1, 0));
        is.noSuch("a line behind", () -> x.signAt(2, 0));
        x.rub(0);
        is.due("a sign that is gone", (char) 0, () -> x.signAt(0, 2));
    }

    private static void kindOfHeadings() {
        is.dueKinds(Outlinery.HEADING, "* ", "* a", "***** a", "*  ", "* TODO", "* TODO ", "* TODO x :a:", "* :a:", "* * *");
        is.dueKinds(Outlinery.TEXT, "", "*", "*a", "*****", "****** a", " * a", "**");
        Outlinery x = Checks.text("* TODO t :x:y:", "* TODO :x:", "*  :x:", "* TODO", "* DROP  :z:", "* a :x: :y:",
            "* a :xy:", "* a ::", "* a :x", "* a x:", "* a :X:", "* WAIT DONE b");
        int[] states = {0, 0, -1, -1, 3, -1, -1, -1, -1, -1, -1, 1};
        int[] tags = {3 << 23, 0, 1 << 23, 0, 1 << 25, 1 << 24, 0, 0, 0, 0, 0, 0};
        for (int i = 0; i < states.length; i++) {
            int entry = i;
            is.due("state of heading " + i, states[i], () -> x.entry(entry, 3));
            is.due("tags of heading " + i, tags[i], () -> x.entry(entry, 6));
        }
        Outlinery all = Checks.text("*  :a:b:c:d:e:f:g:h:i:j:", "* t :z:z:y:");
        is.due("ten tags", 1023, () -> all.entry(0, 6));
        is.due("a tag twice", 3 << 24, () -> all.entry(1, 6));
        is.dueExport("titles", x, "* t", "* :x:", "* ", "* TODO", "* a :x:", "* a :xy:", "* a ::", "* a :x", "* a x:",
            "* a :X:", "* DONE b");
    }

    private static void kindOfTimes() {
        is.dueKinds(Outlinery.PROPERTY, ":a:0", ":z:9999", ":o:1");
        is.dueKinds(Outlinery.TEXT, ":a:", ":A:1", ":a:01", ":a:10000", ":a1", "a:1", ":a:1 ", ":a:-1", ":ab:1", ":a:00");
        is.dueKinds(Outlinery.DATE, "@0", "@9999", "@5-5", "@5-6", "@5+1", "@5-7+9999", "@5+7+", "@5+7.", "@5-6+7.");
        is.dueKinds(Outlinery.TEXT, "@", "@05", "@10000", "@5-4", "@5-", "@5+", "@5+0", "@5+7++", "@5+7-6", "@5.", "@5-6-7",
            "@5+07", "@5+7..", "@-5", "@5 ");
        is.dueKinds(Outlinery.CLOCK, "%0-", "%0-0", "%5-9999", "%9999-");
        is.dueKinds(Outlinery.TEXT, "%", "%5", "%5-4", "%-5", "%5-05", "%5-6-", "%05-", "%5-10000", "%5--");
    }

    private static void kindOfTables() {
        is.dueKinds(Outlinery.ROW, "|1", "|-1", "|0|-0", "|=a1", "|=1", "|=a1+e9-Sa*(z)+:q-9999", "|=1+2+3+4+5+6",
            "|1|2|3|4|5|6|7|8|9|0|1|2", "|=Se", "|=(a)|=:a|7");
        is.dueKinds(Outlinery.TEXT, "|", "||", "|1|", "|a1", "|=", "|=f1", "|=a0", "|=Sf", "|=(A)", "|=(a", "|=:A", "|=:",
            "|=-1", "|--1", "|=1+", "|=+1", "|=1+2+3+4+5+6+7", "|=1/2", "|=a10", "|01", "|=01", "| 1", "|1 ", "|+1",
            "|=1++2", "|=a", "|=S", "|=()", "1|2", "|=1+2+3+4+5+6+", "|10000");
        is.dueKinds(Outlinery.CODE, "{a}1", "{z}a1+Sb", "{k}(k)*:q-7", "{a}1+2+3+4+5+6");
        is.dueKinds(Outlinery.TEXT, "{a}", "{A}1", "{a1", "a}1", "{}1", "{ab}1", "{a}=1", "{a}-1", "{a}1|2", "{a}1+2+3+4+5+6+7",
            "{a} 1");
    }

    private static void kindOfOthers() {
        is.dueKinds(Outlinery.INCLUDE, "!a", "!z");
        is.dueKinds(Outlinery.TEXT, "!", "!A", "!ab", "!1", " !a", "!a ", "a", "[a]^1", " ");
        Outlinery x = Checks.text("!a");
        is.noSuch("kind behind", () -> x.kind(1));
        is.noSuch("kind below", () -> x.kind(-1));
        x.sign(0, 'b');
        is.due("kind of a line that grew", Outlinery.TEXT, () -> x.kind(0));
        x.rub(0);
        is.due("kind of a line that shrank", Outlinery.INCLUDE, () -> x.kind(0));
    }

    private static void nothingIsChangedByAnException() {
        Outlinery x = Checks.text("* a");
        is.noSuch("line", () -> x.line(2));
        is.noSuch("sign", () -> x.sign(1, 'a'));
        is.outOfRange("sign", () -> x.sign(0, (char) 200));
        is.noSuch("rub", () -> x.rub(1));
        is.dueLines("behind exceptions", x, "* a");
    }
}

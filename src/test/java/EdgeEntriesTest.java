/** The edges of promises 8 to 16, and of what the document says of entries and states: a test for each such sentence. */
public final class EdgeEntriesTest {
    private static final Checks is = new Checks("EdgeEntriesTest");
    private static final int MIN = Integer.MIN_VALUE;
    private static final int MAX = Integer.MAX_VALUE;
    private static final int A = 1, B = 2, C = 4, Z = 1 << 25;

    public static void main(String[] args) {
        entriesUpTo60();
        entriesAsTheyStand();
        entryOfNoEntry();
        entryOutOfRange();
        entryLine();
        entryLevel();
        entryParent();
        entryState();
        entryBelow();
        entryPart();
        entryTags();
        entryDay();
        entryNumber();
        propertyOfItself();
        propertyInherited();
        propertySummed();
        propertyThrows();
        shiftUpToFive();
        shiftDownToOne();
        shiftOfThePart();
        shiftUpTo24Signs();
        shiftThrows();
        refileToTheEnd();
        refileOfLevels();
        refileStays();
        refileToItself();
        refileUpToFive();
        refileUpTo24Signs();
        refileUpTo60Lines();
        refileThrowsFirst();
        stateIsSet();
        stateOfATitle();
        stateOutOfRange();
        stateUpTo24Signs();
        stateThrowsFirst();
        doneWithNoneBelow();
        doneInOrder();
        doneInOrderOfWhat();
        doneRepeats();
        doneRepeatsOnce();
        doneRepeatsUntil();
        doneRepeatsFromToday();
        doneRepeatsWithoutALastDay();
        doneUpTo9999();
        doneRefused();
        captureUnderTheFirst();
        captureUnderNone();
        captureLevels();
        captureUpTo60Lines();
        captureThrows();
        archiveOfThePart();
        archiveUpToFive();
        archiveThrows();
        bringBackTheLastOne();
        bringBackUnderTheFirst();
        bringBackAtTheEnd();
        bringBackAsItWas();
        bringBackThrows();
        is.end();
    }

    // ---- entries

    private static Outlinery headings(int many) {
        Outlinery x = new Outlinery();
        for (int i = 0; i < many; i++) {
            Checks.put(x, "* ");
        }
        return x;
    }

    private static void entriesUpTo60() {
        is.promise(8, "Returns how many entries there are");
        is.due("without lines", 0, () -> new Outlinery().entries());
        is.due("without headings", 0, () -> Checks.text("", "*", "a", ":a:1", "****** a").entries());
        is.due("without a title", 1, () -> Checks.text("* ").entries());
        is.due("60", 60, () -> headings(60).entries());
        is.due("one that became a line", 0, () -> {
            Outlinery x = Checks.text("* ");
            x.rub(0);
            return x.entries();
        });
    }

    private static void entriesAsTheyStand() {
        is.promise(8, "entries are numbered from 0, as they stand");
        Outlinery x = Checks.text("ahead", "*** c", "", "* a", "** b");
        int[] lines = {1, 3, 4};
        for (int i = 0; i < 3; i++) {
            int entry = i;
            is.due("line of entry " + i, lines[i], () -> x.entry(entry, 0));
        }
        x.line(0);
        Checks.write(x, 0, "* z");
        is.due("line of entry 0", 0, () -> x.entry(0, 0));
        is.due("line of entry 1", 2, () -> x.entry(1, 0));
    }

    // ---- entry

    private static void entryOfNoEntry() {
        is.promise(9, "Throws IndexOutOfBoundsException if there is no such entry");
        is.refusedEach("entry", Checks.NO_SUCH, () -> Checks.text("a", "* a", "** b"), (x, entry) -> x.entry(entry, 0), -1, 2, MIN,
            MAX);
        is.refusedEach("entry, without headings", Checks.NO_SUCH, () -> Checks.text("a"), (x, entry) -> x.entry(entry, 0), -1, 0,
            MIN, MAX);
        is.noSuch("entry 60 of 60", () -> headings(60).entry(60, 0));
        for (int i = 0; i <= 8; i++) {
            int what = i;
            is.dueEach("entry, what " + i, Checks.NO_SUCH, entry -> Checks.text("* a").entry(entry, what), -1, 1);
        }
        is.promise(9, "If several exceptions apply, the one that is documented first is thrown");
        is.refusedEach("what, of entry 1", Checks.NO_SUCH, () -> Checks.text("* a"), (x, what) -> x.entry(1, what), -1, 9, MIN,
            MAX);
    }

    private static void entryOutOfRange() {
        is.promise(9, "Throws IllegalArgumentException if what is out of range");
        is.refusedEach("what", Checks.OUT_OF_RANGE, () -> Checks.text("* a"), (x, what) -> x.entry(0, what), -1, 9, 10, MIN, MAX);
        is.due("what 0, the smallest one", 1, () -> Checks.text("", "* a").entry(0, 0));
        is.due("what 8, the largest one", 2, () -> Checks.text("* a", "* b").entry(1, 8));
    }

    private static void entryLine() {
        is.promise(9, "0 the line of its heading");
        is.due("the first line", 0, () -> Checks.text("* a").entry(0, 0));
        Outlinery x = Checks.fill(Checks.text("* a"), 0, 60);
        is.due("the last line of 60", 59, () -> x.entry(0, 0));
        Outlinery many = headings(60);
        is.due("entry 0 of 60", 0, () -> many.entry(0, 0));
        is.due("entry 59 of 60", 59, () -> many.entry(59, 0));
    }

    private static void entryLevel() {
        is.promise(9, "1 its level: how many stars it has");
        Outlinery x = Checks.text("***** a", "**** *", "*** *** a", "** ", "* *****");
        for (int i = 0; i < 5; i++) {
            int entry = i;
            is.due("level of entry " + i, 5 - i, () -> x.entry(entry, 1));
        }
    }

    private static void entryParent() {
        is.promise(9, "2 its parent, NONE without: the latest one ahead of it with a lower level");
        Outlinery x = Checks.text("** a", "* b", "** c", "** d", "***** e", "**** f", "***** g", "*** h", "* i");
        int[] parents = {-1, -1, 1, 1, 3, 3, 5, 3, -1};
        for (int i = 0; i < parents.length; i++) {
            int entry = i;
            is.due("parent of entry " + i, parents[i], () -> x.entry(entry, 2));
        }
        is.due("behind lines without an entry", -1, () -> Checks.text("a", ":o:1", "***** a").entry(0, 2));
        Outlinery many = headings(58);
        Checks.put(many, "** a", "** b");
        is.due("parent of entry 59", 57, () -> many.entry(59, 2));
    }

    private static void entryState() {
        is.promise(9, "3 its state: TODO = 0, WAIT = 1, DONE = 2, DROP = 3, NONE without");
        Outlinery x = Checks.text("* TODO ", "* WAIT a", "* DONE a", "* DROP a", "* a", "* ", "* TODO");
        int[] states = {0, 1, 2, 3, -1, -1, -1};
        for (int i = 0; i < states.length; i++) {
            int entry = i;
            is.due("state of entry " + i, states[i], () -> x.entry(entry, 3));
        }
        is.due("a state is not inherited", -1, () -> Checks.text("* TODO a", "** b").entry(1, 3));
    }

    private static void entryBelow() {
        is.promise(9, "4 how many entries are below it: all entries behind it up to the next one whose level is not greater");
        Outlinery x = Checks.text("** a", "*** b", "***** c", "**** d", "*** e", "** f", "* g", "** h");
        int[] below = {4, 2, 0, 0, 0, 0, 1, 0};
        for (int i = 0; i < below.length; i++) {
            int entry = i;
            is.due("below entry " + i, below[i], () -> x.entry(entry, 4));
        }
        Outlinery many = headings(1);
        for (int i = 0; i < 59; i++) {
            Checks.put(many, "** ");
        }
        is.due("59 entries", 59, () -> many.entry(0, 4));
        is.due("none", 0, () -> many.entry(1, 4));
    }

    private static void entryPart() {
        is.promise(9, "5 how many lines its part has: the lines of an entry, and of all below it");
        is.due("one line", 1, () -> Checks.text("a", "* a", "* b", "b").entry(0, 5));
        is.due("60 lines", 60, () -> Checks.fill(Checks.text("* a"), 1, 60).entry(0, 5));
        Outlinery x = Checks.text("a", "* a", "1", "** b", "2", ":a:1", "*** c", "", "* d", "@1");
        int[] parts = {7, 5, 2, 2};
        for (int i = 0; i < parts.length; i++) {
            int entry = i;
            is.due("part of entry " + i, parts[i], () -> x.entry(entry, 5));
        }
    }

    private static void entryTags() {
        is.promise(9, "6 its tags, inherited ones too, the sum of 2 to the power of each, a being 0");
        Outlinery x = Checks.text("* t", "* t :a:", "* t :z:", "* t :a:z:", "* t :b:b:");
        int[] tags = {0, A, Z, A + Z, B};
        for (int i = 0; i < tags.length; i++) {
            int entry = i;
            is.due("tags of entry " + i, tags[i], () -> x.entry(entry, 6));
        }
        Outlinery all = Checks.text("*  :a:b:c:d:e:f:g:h:i:j:", "** k", "***  :k:l:m:n:o:p:q:r:", "****  :s:t:u:v:w:x:y:",
            "***** e :z:", "*** f", "* g");
        is.due("all 26, over four parents", (1 << 26) - 1, () -> all.entry(4, 6));
        is.due("from j", 1023, () -> all.entry(5, 6));
        is.due("not from a sibling", 0, () -> all.entry(6, 6));
        Outlinery below = Checks.text("* a", "** b :b:", "* c :c:");
        is.due("not from below", 0, () -> below.entry(0, 6));
        is.due("its own alone", C, () -> below.entry(2, 6));
    }

    private static void entryDay() {
        is.promise(9, "7 the day of its date, NONE without: the first DATE of an entry is its date");
        Outlinery x = Checks.text("@3", "* a", "@0", "@9", "* b", "@5-4", "text", "@9999-9999+1", "* c", "** d", "@7-8");
        int[] days = {0, 9999, -1, 7};
        for (int i = 0; i < days.length; i++) {
            int entry = i;
            is.due("day of entry " + i, days[i], () -> x.entry(entry, 7));
        }
        Outlinery last = Checks.fill(Checks.text("* a", "@6"), 1, 60);
        is.due("in the last line of 60", 6, () -> last.entry(0, 7));
    }

    private static void entryNumber() {
        is.promise(9, "8 its number among entries with its parent, from 1");
        Outlinery x = Checks.text("*** a", "** b", "* c", "*** d", "** e", "*** f", "*** g", "* h");
        int[] numbers = {1, 2, 3, 1, 2, 1, 2, 4};
        for (int i = 0; i < numbers.length; i++) {
            int entry = i;
            is.due("number of entry " + i, numbers[i], () -> x.entry(entry, 8));
        }
        is.due("60", 60, () -> headings(60).entry(59, 8));
    }

    // ---- property

    private static void propertyOfItself() {
        is.promise(10, "a property letter is that of its first PROPERTY with this letter");
        Outlinery x = Checks.text(":a:9", "* a", ":a:0", ":a:5", ":z:9999", ":b:1", "** b", ":b:2");
        is.due("the first one, 0", 0, () -> x.property(0, 0, false));
        is.due("9999, letter 25", 9999, () -> x.property(0, 25, false));
        is.due("not from below", 1, () -> x.property(0, 1, false));
        is.due("a later one of another letter", 2, () -> x.property(1, 1, false));
        is.promise(10, "Returns the number, NONE without");
        is.due("without", -1, () -> x.property(0, 2, false));
        is.due("not that ahead of the first entry", -1, () -> Checks.text(":a:9", "* a").property(0, 0, false));
        is.due("not that of one behind", -1, () -> Checks.text("* a", "* b", ":a:9").property(0, 0, false));
        is.due("not that of TEXT", -1, () -> Checks.text("* a", ":a:01").property(0, 0, false));
        Outlinery last = Checks.fill(Checks.text("* a", ":a:6"), 1, 60);
        is.due("in the last line of 60", 6, () -> last.property(0, 0, false));
    }

    private static void propertyInherited() {
        is.promise(10, "otherwise, inherited, that of its parent");
        Outlinery x = Checks.text("* a", ":a:0", ":b:7", "** b", "*** c", ":b:8", "**** d", "***** e", "** f", "* g");
        is.due("0, over four", 0, () -> x.property(4, 0, false));
        is.due("the nearest one", 8, () -> x.property(4, 1, false));
        is.due("not from a sibling's part", 7, () -> x.property(5, 1, false));
        is.due("not from an entry of its level", -1, () -> x.property(6, 1, false));
        is.due("not from a deeper one ahead", -1, () -> Checks.text("** a", ":a:1", "* b").property(1, 0, false));
        is.due("over a gap of levels", 1, () -> Checks.text("* a", ":a:1", "***** b").property(1, 0, false));
    }

    private static void propertySummed() {
        is.promise(10, "the sum of what it and all below it have themselves is asked instead, 0 without");
        Outlinery x = Checks.text("* a", ":a:1", "** b", ":a:20", "*** c", ":a:300", "** d", "* e", ":a:4000");
        int[] sums = {321, 320, 300, 0, 4000};
        for (int i = 0; i < sums.length; i++) {
            int entry = i;
            is.due("sum of entry " + i, sums[i], () -> x.property(entry, 0, true));
        }
        is.due("without", 0, () -> x.property(0, 25, true));
        is.due("0 alone", 0, () -> Checks.text("* a", ":a:0").property(0, 0, true));
        is.due("the first one of each alone", 50, () -> Checks.text("* a", ":a:10", ":a:1", "** b", ":a:40", ":a:2").property(0, 0,
            true));
        is.due("without that ahead of the first entry", 3, () -> Checks.text(":a:9", "* a", ":a:3").property(0, 0, true));
        Outlinery large = Checks.text("* a", ":z:9999");
        for (int i = 0; i < 12; i++) {
            Checks.put(large, "** b", ":z:9999");
        }
        is.due("13 times 9999", 129987, () -> large.property(0, 25, true));
    }

    private static void propertyThrows() {
        Checks.Made made = () -> Checks.text("* a", ":a:1", "** b");
        is.promise(10, "Throws IndexOutOfBoundsException if there is no such entry");
        is.refusedEach("entry", Checks.NO_SUCH, made, (x, entry) -> x.property(entry, 0, false), -1, 2, MIN, MAX);
        is.refusedEach("entry, summed", Checks.NO_SUCH, made, (x, entry) -> x.property(entry, 0, true), -1, 2, MIN, MAX);
        is.promise(10, "Throws IllegalArgumentException if letter is out of range");
        is.refusedEach("letter", Checks.OUT_OF_RANGE, made, (x, letter) -> x.property(0, letter, false), -1, 26, MIN, MAX);
        is.refusedEach("letter, summed", Checks.OUT_OF_RANGE, made, (x, letter) -> x.property(0, letter, true), -1, 26, MIN, MAX);
        is.promise(10, "If several exceptions apply, the one that is documented first is thrown");
        is.refusedEach("letter, of no entry", Checks.NO_SUCH, made, (x, letter) -> x.property(2, letter, false), -1, 26, MIN, MAX);
        is.due("letter 0", 1, () -> made.make().property(1, 0, false));
        is.due("letter 25", -1, () -> made.make().property(1, 25, false));
    }

    // ---- shift

    private static void shiftUpToFive() {
        is.promise(11, "Throws IllegalStateException if one would have six stars");
        Outlinery x = Checks.text("**** a");
        is.due("four", 5, () -> x.shift(0, true));
        is.dueLines("five", x, "***** a");
        is.refused("five", Checks.CANNOT, () -> Checks.text("***** a", "1"), y -> y.shift(0, true));
        is.refused("five below", Checks.CANNOT, () -> Checks.text("* a", "** b", "***** c"), y -> y.shift(0, true));
        is.refused("five between", Checks.CANNOT, () -> Checks.text("* a", "***** b", "** c"), y -> y.shift(0, true));
        is.due("five behind the part", 3, () -> Checks.text("** a", "*** b", "** c", "***** d").shift(0, true));
        is.due("less of five", 4, () -> Checks.text("***** a").shift(0, false));
    }

    private static void shiftDownToOne() {
        is.promise(11, "Throws IllegalStateException if one would have none");
        Outlinery x = Checks.text("** a");
        is.due("two", 1, () -> x.shift(0, false));
        is.dueLines("one", x, "* a");
        is.refused("one", Checks.CANNOT, () -> Checks.text("* a", "** b", "1"), y -> y.shift(0, false));
        is.due("more of one", 2, () -> Checks.text("* a").shift(0, true));
        Outlinery below = Checks.text("** a", "***** b", "* c");
        is.due("with five below", 1, () -> below.shift(0, false));
        is.dueLines("four then", below, "* a", "**** b", "* c");
    }

    private static void shiftOfThePart() {
        is.promise(11, "Gives all headings of the part of an entry a star more, or one less");
        Outlinery x = Checks.text("*ahead", "** a", "*text", ":a:1", "*** TODO b :x:", "**** ", "** c", "* d");
        is.due("more", 3, () -> x.shift(0, true));
        is.dueLines("more", x, "*ahead", "*** a", "*text", ":a:1", "**** TODO b :x:", "***** ", "** c", "* d");
        is.due("less", 2, () -> x.shift(0, false));
        is.dueLines("less", x, "*ahead", "** a", "*text", ":a:1", "*** TODO b :x:", "**** ", "** c", "* d");
        is.promise(11, "Returns its level then");
        is.due("the last one", 2, () -> x.shift(4, true));
        is.dueLines("the last one", x, "*ahead", "** a", "*text", ":a:1", "*** TODO b :x:", "**** ", "** c", "** d");
    }

    private static void shiftUpTo24Signs() {
        is.promise(11, "Throws IllegalStateException if a line would be too long");
        String signs23 = "* 345678901234567890123";
        Outlinery x = Checks.text(signs23);
        is.due("23 signs", 2, () -> x.shift(0, true));
        is.dueLines("24 signs", x, "*" + signs23);
        is.refused("24 signs", Checks.CANNOT, () -> Checks.text(signs23 + "4", "1"), y -> y.shift(0, true));
        is.refused("24 signs below", Checks.CANNOT, () -> Checks.text("* a", "** b", "*" + signs23), y -> y.shift(0, true));
        Outlinery less = Checks.text("*" + signs23);
        is.due("24 signs, less", 1, () -> less.shift(0, false));
        is.dueLines("23 signs", less, signs23);
        is.due("24 signs of another line", 2, () -> Checks.text("* a", "*23456789012345678901234").shift(0, true));
        is.due("24 signs behind the part", 2, () -> Checks.text("* a", signs23 + "4").shift(0, true));
    }

    private static void shiftThrows() {
        is.promise(11, "Throws IndexOutOfBoundsException if there is no such entry");
        is.refusedEach("entry, more", Checks.NO_SUCH, () -> Checks.text("*** a", "*** b"), (x, entry) -> x.shift(entry, true), -1,
            2, MIN, MAX);
        is.refusedEach("entry, less", Checks.NO_SUCH, () -> Checks.text("*** a", "*** b"), (x, entry) -> x.shift(entry, false),
            -1, 2, MIN, MAX);
        is.noSuch("without entries", () -> Checks.text("a").shift(0, true));
    }

    // ---- refile

    private static void refileToTheEnd() {
        is.promise(12, "Moves the part of an entry to the end of the part of another one");
        Outlinery x = Checks.text("ahead", "* a", "1", "** b", "2", "* c", "3", "** d", "4");
        is.due("to a last entry", 2, () -> x.refile(0, 2, false));
        is.dueLines("to a last entry", x, "ahead", "* c", "3", "** d", "4", "** a", "1", "*** b", "2");
        is.due("where it is the last one already", 2, () -> x.refile(2, 0, false));
        is.dueLines("where it is", x, "ahead", "* c", "3", "** d", "4", "** a", "1", "*** b", "2");
        is.due("to one ahead, behind what is below it", 2, () -> x.refile(3, 1, false));
        is.dueLines("to one ahead", x, "ahead", "* c", "3", "** d", "4", "*** b", "2", "** a", "1");
        Outlinery often = Checks.fill(Checks.text("* a", "x", "* b"), 3, 32);
        for (int i = 0; i < 6; i++) {
            is.due("30 lines, forth " + i, 1, () -> often.refile(1, 0, false));
            is.due("one below, " + i, 1, () -> often.entry(0, 4));
            is.due("30 lines, and less stars " + i, 2, () -> often.shift(1, false) + 1);
            is.due("lines " + i, 32, often::lines);
        }
        is.due("to one without other lines", 1, () -> {
            Outlinery y = Checks.text("* a", "* b");
            return y.refile(1, 0, false);
        });
        is.due("to one behind, without other lines", "1 [* b, ** a]", () -> {
            Outlinery y = Checks.text("* a", "* b");
            return y.refile(0, 1, false) + " " + Checks.linesOf(y);
        });
    }

    private static void refileOfLevels() {
        is.promise(12, "its headings getting or losing stars so that its level is 1 more than that of the other one");
        Outlinery x = Checks.text("* a", "***** b", "*text", "*** c");
        is.due("losing three", 2, () -> x.refile(1, 0, false));
        is.dueLines("losing three", x, "* a", "*** c", "** b", "*text");
        Outlinery y = Checks.text("*** a", "* b", "**** c", "*2");
        is.cannot("getting three, with one below", () -> y.refile(1, 0, false));
        is.due("losing none", 1, () -> y.refile(2, 0, false));
        is.dueLines("losing none", y, "*** a", "**** c", "*2", "* b");
        is.due("getting three", 2, () -> y.refile(2, 0, false));
        is.dueLines("getting three", y, "*** a", "**** c", "*2", "**** b");
        Outlinery up = Checks.text("* a", "** b", "***** c", "****** d");
        is.due("to the parent of its parent", 2, () -> up.refile(2, 0, false));
        is.dueLines("to the parent of its parent", up, "* a", "** b", "** c", "****** d");
    }

    private static void refileStays() {
        is.promise(12, "whether it stays where it is, too. Returns its number then, or that of what is put there");
        Outlinery x = Checks.text("* a", "1", "* b", "** c", "2");
        is.due("a copy behind", 3, () -> x.refile(0, 1, true));
        is.dueLines("a copy behind", x, "* a", "1", "* b", "** c", "2", "** a", "1");
        is.due("a copy ahead", 1, () -> x.refile(2, 0, true));
        is.dueLines("a copy ahead", x, "* a", "1", "** c", "2", "* b", "** c", "2", "** a", "1");
        is.due("a copy under its parent", 3, () -> Checks.text("* a", "** b", "** c").refile(1, 0, true));
        Outlinery z = Checks.text("* a", "** b", "*** c", "1");
        is.due("a copy under the parent of its parent", 3, () -> z.refile(2, 0, true));
        is.dueLines("a copy under the parent of its parent", z, "* a", "** b", "*** c", "1", "** c", "1");
    }

    private static void refileToItself() {
        is.promise(12, "Throws IllegalStateException if the other one is it, or below it");
        Checks.Made made = () -> Checks.text("* a", "** b", "*** c", "** d", "* e");
        for (int i = 0; i < 4; i++) {
            int to = i;
            is.refused("to " + i, Checks.CANNOT, made, x -> x.refile(0, to, false));
            is.refused("to " + i + ", a copy", Checks.CANNOT, made, x -> x.refile(0, to, true));
        }
        is.refused("the last one to itself", Checks.CANNOT, made, x -> x.refile(4, 4, true));
        is.due("to the one behind what is below it", 1, () -> made.make().refile(0, 4, false));
        is.due("to the one ahead of it", 3, () -> made.make().refile(3, 2, false));
        is.due("to one behind", 2, () -> made.make().refile(1, 3, false));
    }

    private static void refileUpToFive() {
        is.promise(12, "Throws IllegalStateException if a heading would have six stars");
        is.due("five", 1, () -> Checks.text("**** a", "* b").refile(1, 0, false));
        is.refused("six", Checks.CANNOT, () -> Checks.text("***** a", "* b"), x -> x.refile(1, 0, false));
        is.refused("six of five", Checks.CANNOT, () -> Checks.text("***** a", "***** b"), x -> x.refile(1, 0, true));
        is.due("five below", 1, () -> Checks.text("*** a", "* b", "** c").refile(1, 0, false));
        is.refused("six below", Checks.CANNOT, () -> Checks.text("**** a", "* b", "** c"), x -> x.refile(1, 0, false));
        is.refused("six far below", Checks.CANNOT, () -> Checks.text("* a", "* b", "** c", "***** d", "** e"),
            x -> x.refile(1, 0, true));
    }

    private static void refileUpTo24Signs() {
        is.promise(12, "Throws IllegalStateException if lines would be too long");
        String signs23 = "* 345678901234567890123";
        Outlinery x = Checks.text("* a", signs23);
        is.due("23 signs", 1, () -> x.refile(1, 0, false));
        is.dueLines("24 signs", x, "* a", "*" + signs23);
        is.refused("24 signs", Checks.CANNOT, () -> Checks.text("* a", signs23 + "4"), y -> y.refile(1, 0, false));
        is.refused("24 signs, a copy", Checks.CANNOT, () -> Checks.text("* a", signs23 + "4"), y -> y.refile(1, 0, true));
        is.refused("24 signs below", Checks.CANNOT, () -> Checks.text("* a", "* b", "*" + signs23), y -> y.refile(1, 0, false));
        is.due("24 signs that stay", 1, () -> Checks.text("* a", "*" + signs23).refile(1, 0, false));
        is.due("24 signs of another line", 1,
            () -> Checks.text("* a", "* b", "*23456789012345678901234").refile(1, 0, false));
    }

    private static void refileUpTo60Lines() {
        is.promise(12, "Throws IllegalStateException if lines would be too many");
        Outlinery x = Checks.fill(Checks.text("x", "* a", "* b"), 3, 31);
        is.due("29 more of 31", 1, () -> x.refile(1, 0, true));
        is.due("60 lines", 60, x::lines);
        is.refused("29 more of 32", Checks.CANNOT, () -> Checks.fill(Checks.text("x", "x", "* a", "* b"), 4, 32),
            y -> y.refile(1, 0, true));
        is.refused("30 more of 31", Checks.CANNOT, () -> Checks.fill(Checks.text("* a", "* b"), 2, 31),
            y -> y.refile(1, 0, true));
        Outlinery one = Checks.fill(Checks.text("* a", "* b"), 1, 59);
        is.due("one more of 59", 1, () -> one.refile(1, 0, true));
        is.due("60 lines", 60, one::lines);
        is.refused("one more of 60", Checks.CANNOT, () -> Checks.fill(Checks.text("* a", "* b"), 1, 60),
            y -> y.refile(1, 0, true));
        Outlinery full = Checks.fill(Checks.text("* a", "1", "* b", "2"), 2, 60);
        is.due("60 lines, and one moves", 1, () -> full.refile(0, 1, false));
        is.due("60 lines still", 60, full::lines);
        is.due("the first one is b", 'b', () -> full.signAt(0, 2));
        is.due("the one that moved", 'a', () -> full.signAt(2, 3));
    }

    private static void refileThrowsFirst() {
        is.promise(12, "Throws IndexOutOfBoundsException if there is no such entry, of either");
        Checks.Made made = () -> Checks.text("***** a", "* b");
        is.refusedEach("entry", Checks.NO_SUCH, made, (x, entry) -> x.refile(entry, 1, false), -1, 2, MIN, MAX);
        is.refusedEach("entry, a copy", Checks.NO_SUCH, made, (x, entry) -> x.refile(entry, 1, true), -1, 2, MIN, MAX);
        is.refusedEach("to", Checks.NO_SUCH, made, (x, to) -> x.refile(0, to, false), -1, 2, MIN, MAX);
        is.refusedEach("to, a copy", Checks.NO_SUCH, made, (x, to) -> x.refile(1, to, true), -1, 2, MIN, MAX);
        is.refusedEach("both", Checks.NO_SUCH, made, (x, both) -> x.refile(both, both, true), -1, 2, MIN, MAX);
        is.promise(12, "If several exceptions apply, the one that is documented first is thrown");
        is.refusedEach("to, where lines are too many", Checks.NO_SUCH, () -> Checks.fill(Checks.text("* a"), 1, 60),
            (x, to) -> x.refile(0, to, true), -1, 1, MIN, MAX);
    }

    // ---- state

    private static void stateIsSet() {
        is.promise(13, "Sets the state of an entry: TODO to DROP, or NONE");
        String[] words = {"", "TODO ", "WAIT ", "DONE ", "DROP "};
        for (int i = -1; i <= 3; i++) {
            for (int j = -1; j <= 3; j++) {
                int state = j;
                Outlinery x = Checks.text("ahead", "** " + words[i + 1] + "a :b:", "1");
                is.due("state " + j + " from " + i, state, () -> x.state(0, state));
                is.dueLines("state " + j + " from " + i, x, "ahead", "** " + words[j + 1] + "a :b:", "1");
                is.due("state " + j + " then", state, () -> x.entry(0, 3));
            }
        }
        Outlinery none = Checks.text("* ");
        is.due("without a title", 0, () -> none.state(0, 0));
        is.dueLines("without a title", none, "* TODO ");
        is.due("without a title, NONE", -1, () -> none.state(0, -1));
        is.dueLines("without a title, NONE", none, "* ");
    }

    private static void stateOfATitle() {
        is.promise(13, "Returns its state then, as the text tells it (a title that begins like a state counts)");
        Outlinery x = Checks.text("* TODO WAIT DROP a", "* TODO DONE", "* TODO TODO ");
        is.due("NONE of TODO WAIT", 1, () -> x.state(0, -1));
        is.due("NONE of WAIT DROP", 3, () -> x.state(0, -1));
        is.due("NONE of DROP", -1, () -> x.state(0, -1));
        is.due("NONE of a title DONE, without a blank", -1, () -> x.state(1, -1));
        is.due("NONE of a title TODO and a blank", 0, () -> x.state(2, -1));
        is.dueLines("then", x, "* a", "* DONE", "* TODO ");
        is.due("WAIT ahead of a title DONE", 1, () -> x.state(1, 1));
        is.dueLines("then", x, "* a", "* WAIT DONE", "* TODO ");
    }

    private static void stateOutOfRange() {
        is.promise(13, "Throws IndexOutOfBoundsException if there is no such entry");
        is.refusedEach("entry", Checks.NO_SUCH, () -> Checks.text("* a", "* b"), (x, entry) -> x.state(entry, 0), -1, 2, MIN, MAX);
        is.promise(13, "Throws IllegalArgumentException if state is out of range");
        is.refusedEach("state", Checks.OUT_OF_RANGE, () -> Checks.text("* a", "@1+1"), (x, state) -> x.state(0, state), -2, 4, 5,
            MIN, MAX);
        is.due("-1, the smallest one", -1, () -> Checks.text("* TODO a").state(0, -1));
        is.due("3, the largest one", 3, () -> Checks.text("* TODO a").state(0, 3));
    }

    private static void stateUpTo24Signs() {
        is.promise(13, "Throws IllegalStateException if a line would be too long");
        String signs19 = "* 34567890123456789";
        Outlinery x = Checks.text(signs19);
        is.due("19 signs", 1, () -> x.state(0, 1));
        is.dueLines("24 signs", x, "* WAIT 34567890123456789");
        is.due("24 signs, another state", 3, () -> x.state(0, 3));
        is.due("24 signs, the same state", 3, () -> x.state(0, 3));
        is.due("24 signs, NONE", -1, () -> x.state(0, -1));
        is.dueLines("19 signs", x, signs19);
        is.refusedEach("state, 20 signs", Checks.CANNOT, () -> Checks.text(signs19 + "0", "1"), (y, state) -> y.state(0, state), 0,
            1, 2, 3);
        is.refusedEach("state, 24 signs", Checks.CANNOT, () -> Checks.text("* a", signs19 + "01234"),
            (y, state) -> y.state(1, state), 0, 1, 2, 3);
        is.due("24 signs without a state, NONE", -1, () -> Checks.text(signs19 + "01234").state(0, -1));
        is.refused("20 signs with a date that repeats", Checks.CANNOT, () -> Checks.text(signs19 + "0", "@5+7"),
            y -> y.state(0, 2));
        Outlinery fits = Checks.text(signs19, "@5+7");
        is.due("19 signs with a date that repeats", 0, () -> fits.state(0, 2));
        is.dueLines("24 signs", fits, "* TODO 34567890123456789", "@12+7");
    }

    private static void stateThrowsFirst() {
        is.promise(13, "If several exceptions apply, the one that is documented first is thrown");
        is.refusedEach("state, of no entry", Checks.NO_SUCH, () -> Checks.text("* a"), (x, state) -> x.state(1, state), -2, 4, MIN,
            MAX);
        is.refusedEach("state, of a full line", Checks.OUT_OF_RANGE, () -> Checks.text("* 3456789012345678901234"),
            (x, state) -> x.state(0, state), -2, 4, MIN, MAX);
    }

    private static void doneWithNoneBelow() {
        is.promise(13, "An entry can become DONE only if no entry below it is TODO or WAIT");
        is.refused("TODO below", Checks.CANNOT, () -> Checks.text("* a", "** TODO b"), x -> x.state(0, 2));
        is.refused("WAIT below", Checks.CANNOT, () -> Checks.text("* a", "** WAIT b"), x -> x.state(0, 2));
        is.refused("TODO far below", Checks.CANNOT, () -> Checks.text("* TODO a", "** DONE b", "*** c", "***** TODO d", "* e"),
            x -> x.state(0, 2));
        is.refused("WAIT as the last one below", Checks.CANNOT, () -> Checks.text("* a", "** b", "** WAIT c"), x -> x.state(0, 2));
        is.refused("TODO below one that is DONE", Checks.CANNOT, () -> Checks.text("* DONE a", "** TODO b"), x -> x.state(0, 2));
        is.refused("TODO below one that repeats", Checks.CANNOT, () -> Checks.text("* a", "@5+7", "** TODO b"),
            x -> x.state(0, 2));
        is.due("DONE, DROP and none below", 2, () -> Checks.text("* a", "** DONE b", "** DROP c", "** d").state(0, 2));
        is.due("TODO not below", 2, () -> Checks.text("* TODO z", "* a", "** b", "* TODO c", "** TODO d").state(1, 2));
        is.due("itself TODO", 2, () -> Checks.text("* TODO a").state(0, 2));
        is.due("a title TODO below", 2, () -> Checks.text("* a", "** TODO", "** x TODO b").state(0, 2));
        for (int state : new int[] {-1, 0, 1, 3}) {
            is.due("another state, " + state, state, () -> Checks.text("* a", "** TODO b").state(0, state));
        }
    }

    private static void doneInOrder() {
        is.promise(13, "if its parent inherits or has the property o with 1, no entry ahead of it with the same parent is TODO "
            + "or WAIT");
        is.refused("TODO ahead", Checks.CANNOT, () -> Checks.text("* a", ":o:1", "** TODO b", "** c"), x -> x.state(2, 2));
        is.refused("WAIT ahead", Checks.CANNOT, () -> Checks.text("* a", ":o:1", "** WAIT b", "** c"), x -> x.state(2, 2));
        is.refused("TODO far ahead", Checks.CANNOT, () -> Checks.text("* a", ":o:1", "*** TODO b", "** DONE c", "*** d", "** e"),
            x -> x.state(4, 2));
        is.refused("TODO as the second one ahead", Checks.CANNOT,
            () -> Checks.text("* a", ":o:1", "** DONE b", "** TODO c", "** DONE d", "** e"), x -> x.state(4, 2));
        is.refused("inherited", Checks.CANNOT, () -> Checks.text("* a", ":o:1", "** b", "*** TODO c", "*** d"), x -> x.state(3, 2));
        is.refused("inherited over three", Checks.CANNOT,
            () -> Checks.text("* a", ":o:1", "** b", "*** c", "**** d", "***** WAIT e", "***** f"), x -> x.state(5, 2));
        is.refused("TODO ahead of one that repeats", Checks.CANNOT,
            () -> Checks.text("* a", ":o:1", "** TODO b", "** c", "@5+7"), x -> x.state(2, 2));
        is.refused("TODO ahead of one that is DONE", Checks.CANNOT, () -> Checks.text("* a", ":o:1", "** TODO b", "** DONE c"),
            x -> x.state(2, 2));
        is.due("DONE, DROP and none ahead", 2,
            () -> Checks.text("* a", ":o:1", "** DONE b", "** DROP c", "** d", "** e").state(4, 2));
        is.due("the first one", 2, () -> Checks.text("* TODO a", ":o:1", "** TODO b", "** TODO c").state(1, 2));
        is.due("TODO ahead, below another one", 2, () -> Checks.text("* a", ":o:1", "** b", "*** TODO c", "** d").state(3, 2));
        is.due("TODO ahead, with another parent", 2,
            () -> Checks.text("* TODO z", "** TODO y", "* a", ":o:1", "** b").state(3, 2));
        is.due("TODO behind", 2, () -> Checks.text("* a", ":o:1", "** b", "** TODO c").state(1, 2));
        is.due("another state", 3, () -> Checks.text("* a", ":o:1", "** TODO b", "** c").state(2, 3));
    }

    private static void doneInOrderOfWhat() {
        is.promise(13, "has the property o with 1");
        String[] others = {":o:0", ":o:2", ":o:11", ":o:9999", ":n:1", ":p:1", "o:1"};
        for (String other : others) {
            is.due(other, 2, () -> Checks.text("* a", other, "** TODO b", "** c").state(2, 2));
        }
        is.due("0 ahead of 1", 2, () -> Checks.text("* a", ":o:0", ":o:1", "** TODO b", "** c").state(2, 2));
        is.cannot("1 ahead of 0", () -> Checks.text("* a", ":o:1", ":o:0", "** TODO b", "** c").state(2, 2));
        is.due("0 ahead of an inherited 1", 2,
            () -> Checks.text("* a", ":o:1", "** b", ":o:0", "*** TODO c", "*** d").state(3, 2));
        is.due("its own", 2, () -> Checks.text("* a", "** TODO b", "** c", ":o:1").state(2, 2));
        is.due("that of the one ahead", 2, () -> Checks.text("* a", "** TODO b", ":o:1", "** c").state(2, 2));
        is.due("without a parent", 2, () -> Checks.text(":o:1", "* TODO a", ":o:1", "* b", ":o:1").state(1, 2));
    }

    private static Object doneThen(int today, String date) {
        Outlinery x = Checks.text("* a", date);
        x.today(today);
        return x.state(0, 2) + " " + Checks.linesOf(x);
    }

    private static void doneRepeats() {
        is.promise(13, "If it has a date with a distance, it does not become DONE, but TODO, and its date goes on: the day and the "
            + "last day by the distance");
        is.due("a distance of 1", "0 [* TODO a, @1+1]", () -> doneThen(0, "@0+1"));
        is.due("a distance of 9999", "0 [* TODO a, @9999+9999]", () -> doneThen(0, "@0+9999"));
        is.due("a last day", "0 [* TODO a, @12-13+7]", () -> doneThen(0, "@5-6+7"));
        is.due("once, also if the day is over", "0 [* TODO a, @12-13+7]", () -> doneThen(9999, "@5-6+7"));
        is.due("without a distance", "2 [* DONE a, @5-6]", () -> doneThen(9, "@5-6"));
        is.due("TEXT is no date", "2 [* DONE a, @5+0]", () -> doneThen(9, "@5+0"));
        for (String state : new String[] {"TODO", "WAIT", "DONE", "DROP"}) {
            Outlinery x = Checks.text("* " + state + " a", "@5+7");
            is.due("from " + state, 0, () -> x.state(0, 2));
            is.dueLines("from " + state, x, "* TODO a", "@12+7");
        }
        Outlinery first = Checks.text("@1+1", "* a", "x", "@5", "@6+7", "** b", "@7+1");
        is.due("the first date has none", 2, () -> first.state(0, 2));
        is.dueLines("only its date", first, "@1+1", "* DONE a", "x", "@5", "@6+7", "** b", "@7+1");
        Outlinery other = Checks.text("* a", "x", "@5+1", "@6+7", "** b", "@7+1");
        is.due("the first date", 0, () -> other.state(0, 2));
        is.dueLines("only its date", other, "* TODO a", "x", "@6+1", "@6+7", "** b", "@7+1");
        for (int state : new int[] {-1, 0, 1, 3}) {
            is.due("state " + state, "@5+7", () -> {
                Outlinery x = Checks.text("* a", "@5+7");
                x.state(0, state);
                return Checks.lineOf(x, 1);
            });
        }
    }

    private static void doneRepeatsOnce() {
        is.promise(13, "with \"+\" as often as that, once at least");
        is.due("today is 0", "0 [* TODO a, @12+7+]", () -> doneThen(0, "@5+7+"));
        is.due("the day ahead of the day", "0 [* TODO a, @12+7+]", () -> doneThen(4, "@5+7+"));
        is.due("day 0, today is 0", "0 [* TODO a, @7+7+]", () -> doneThen(0, "@0+7+"));
        is.due("with a last day", "0 [* TODO a, @12-15+7+]", () -> doneThen(0, "@5-8+7+"));
    }

    private static void doneRepeatsUntil() {
        is.promise(13, "with \"+\" as often as that, once at least, until the day is above today");
        is.due("the day is today", "0 [* TODO a, @12+7+]", () -> doneThen(5, "@5+7+"));
        is.due("a day ahead of the next one", "0 [* TODO a, @12+7+]", () -> doneThen(11, "@5+7+"));
        is.due("the next one is today", "0 [* TODO a, @19+7+]", () -> doneThen(12, "@5+7+"));
        is.due("a day behind it", "0 [* TODO a, @19+7+]", () -> doneThen(13, "@5+7+"));
        is.due("the day counts, not the last day", "0 [* TODO a, @12-20+7+]", () -> doneThen(11, "@5-13+7+"));
        is.due("each day", "0 [* TODO a, @9999+1+]", () -> doneThen(9998, "@0+1+"));
        is.due("not without +", "0 [* TODO a, @12+7]", () -> doneThen(13, "@5+7"));
    }

    private static void doneRepeatsFromToday() {
        is.promise(13, "with \".\" the day becomes today and the distance, together, and the last day keeps its distance from it");
        is.due("today is 0", "0 [* TODO a, @7+7.]", () -> doneThen(0, "@5+7."));
        is.due("a day that goes back", "0 [* TODO a, @8+7.]", () -> doneThen(1, "@9000+7."));
        is.due("a day that is over", "0 [* TODO a, @107+7.]", () -> doneThen(100, "@5+7."));
        is.due("with a last day", "0 [* TODO a, @107-110+7.]", () -> doneThen(100, "@5-8+7."));
        is.due("with a last day, back", "0 [* TODO a, @1-10+1.]", () -> doneThen(0, "@9990-9999+1."));
    }

    private static void doneRepeatsWithoutALastDay() {
        is.promise(13, "The line is written anew then, without a last day that is the day");
        is.due("as such", "0 [* TODO a, @12+7]", () -> doneThen(0, "@5-5+7"));
        is.due("with +", "0 [* TODO a, @12+7+]", () -> doneThen(0, "@5-5+7+"));
        is.due("with .", "0 [* TODO a, @7+7.]", () -> doneThen(0, "@5-5+7."));
        is.due("a last day that is another one stays", "0 [* TODO a, @12-13+7]", () -> doneThen(0, "@5-6+7"));
        is.due("a longer line", "0 [* TODO a, @1000-1001+1]", () -> doneThen(0, "@999-1000+1"));
        is.due("the longest line", "0 [* TODO a, @9998-9999+1000.]", () -> doneThen(8998, "@1000-1001+1000."));
        is.due("a shorter line", "0 [* TODO a, @5-6+5.]", () -> doneThen(0, "@9998-9999+5."));
    }

    private static void doneUpTo9999() {
        is.promise(13, "Throws IllegalStateException if a day would be above 9999");
        is.due("9999", "0 [* TODO a, @9999+1]", () -> doneThen(0, "@9998+1"));
        is.refused("10000", Checks.CANNOT, () -> Checks.text("* a", "@9999+1"), x -> x.state(0, 2));
        is.refused("19998", Checks.CANNOT, () -> Checks.text("* a", "@9999+9999"), x -> x.state(0, 2));
        is.due("a last day of 9999", "0 [* TODO a, @9992-9999+7]", () -> doneThen(0, "@9985-9992+7"));
        is.refused("a last day of 10000", Checks.CANNOT, () -> Checks.text("* a", "@9985-9993+7"), x -> x.state(0, 2));
        is.refused("a last day above, of TODO", Checks.CANNOT, () -> Checks.text("* TODO a", "@0-9999+1"), x -> x.state(0, 2));
        is.due("with +, 9999", "0 [* TODO a, @9999+3+]", () -> doneThen(9998, "@0+3+"));
        is.due("with +, 10002", Checks.CANNOT, () -> doneThen(9999, "@0+3+"));
        is.due("with +, today is 9999", Checks.CANNOT, () -> doneThen(9999, "@0+1+"));
        is.due("with +, a last day of 10000", Checks.CANNOT, () -> doneThen(9998, "@0-1+3+"));
        is.due("with ., 9999", "0 [* TODO a, @9999+9999.]", () -> doneThen(0, "@5+9999."));
        is.due("with ., 10000", Checks.CANNOT, () -> doneThen(1, "@5+9999."));
        is.due("with ., a last day of 9999", "0 [* TODO a, @9998-9999+7.]", () -> doneThen(9991, "@5-6+7."));
        is.due("with ., a last day of 10000", Checks.CANNOT, () -> doneThen(9992, "@5-6+7."));
    }

    private static void doneRefused() {
        is.promise(13, "A method that throws an exception changes nothing");
        is.refused("a day above 9999, with +", Checks.CANNOT, () -> {
            Outlinery x = Checks.text("* WAIT a", "@0-1+3+");
            x.today(9998);
            return x;
        }, x -> x.state(0, 2));
        is.refused("a day above 9999, with .", Checks.CANNOT, () -> {
            Outlinery x = Checks.text("* a", "@5-6+7.");
            x.today(9992);
            return x;
        }, x -> x.state(0, 2));
        is.refused("a full line, with +", Checks.CANNOT, () -> Checks.text("* 3456789012345678901234", "@5+7+"),
            x -> x.state(0, 2));
    }

    // ---- capture

    private static void captureUnderTheFirst() {
        is.promise(14, "at the end of the part of the first entry whose title begins with a letter, a level below it");
        Outlinery x = Checks.text("a", "* ba", "* TODO ab :b:", "1", "** c", "2", "* a");
        is.due("under the first a", 3, () -> x.capture(0, 25));
        is.dueLines("under the first a", x, "a", "* ba", "* TODO ab :b:", "1", "** c", "2", "** TODO z", "* a");
        is.due("the state then", 0, () -> x.entry(3, 3));
        is.due("under c", 3, () -> x.capture(2, 0));
        is.dueLines("under c", x, "a", "* ba", "* TODO ab :b:", "1", "** c", "2", "*** TODO a", "** TODO z", "* a");
        Outlinery z = Checks.text("* z");
        is.due("letter 25, under and as a title", 1, () -> z.capture(25, 25));
        is.dueLines("letter 25", z, "* z", "** TODO z");
        Outlinery deep = Checks.text("* b", "***** a", "* a");
        is.cannot("the first one counts, whatever its level", () -> deep.capture(0, 0));
    }

    private static void captureUnderNone() {
        is.promise(14, "at the end of the text with one star, if there is none");
        Outlinery none = new Outlinery();
        is.due("without lines", 0, () -> none.capture(0, 1));
        is.dueLines("without lines", none, "* TODO b");
        Outlinery x = Checks.text("b", "***** TODO", "* A", "*  b", "* TODO ", "* ab :b:", "1");
        is.due("no such title", 5, () -> x.capture(1, 2));
        is.dueLines("no such title", x, "b", "***** TODO", "* A", "*  b", "* TODO ", "* ab :b:", "1", "* TODO c");
        is.due("a state is no title", 6, () -> x.capture(19, 19));
        is.dueLines("a state is no title", x, "b", "***** TODO", "* A", "*  b", "* TODO ", "* ab :b:", "1", "* TODO c",
            "* TODO t");
    }

    private static void captureLevels() {
        is.promise(14, "Throws IllegalStateException if it would have six stars");
        Outlinery x = Checks.text("**** a");
        is.due("five", 1, () -> x.capture(0, 1));
        is.dueLines("five", x, "**** a", "***** TODO b");
        is.refused("six", Checks.CANNOT, () -> Checks.text("***** a", "1"), y -> y.capture(0, 1));
        is.refused("six, though a later one would do", Checks.CANNOT, () -> Checks.text("***** a", "* a"), y -> y.capture(0, 1));
        is.due("one star beside one of five", 1, () -> Checks.text("***** a").capture(1, 1));
    }

    private static void captureUpTo60Lines() {
        is.promise(14, "Throws IllegalStateException if lines would be too many");
        Outlinery x = Checks.fill(Checks.text("* a", "* b"), 1, 59);
        is.due("the 60th line", 1, () -> x.capture(0, 0));
        is.due("60 lines", 60, x::lines);
        is.due("at the end of the part", 58, () -> x.entry(1, 0));
        is.refused("a 61st line", Checks.CANNOT, () -> Checks.fill(Checks.text("* a", "* b"), 1, 60), y -> y.capture(0, 0));
        is.refused("a 61st line at the end", Checks.CANNOT, () -> Checks.fill(Checks.text("* a"), 0, 60), y -> y.capture(1, 0));
        is.due("the 60th line at the end", 0, () -> Checks.fill(new Outlinery(), 0, 59).capture(1, 0));
    }

    private static void captureThrows() {
        is.promise(14, "Throws IllegalArgumentException if under or title is out of range");
        Checks.Made made = () -> Checks.text("* a", "1");
        is.refusedEach("under", Checks.OUT_OF_RANGE, made, (x, under) -> x.capture(under, 0), -1, 26, MIN, MAX);
        is.refusedEach("title", Checks.OUT_OF_RANGE, made, (x, title) -> x.capture(0, title), -1, 26, MIN, MAX);
        is.refusedEach("both", Checks.OUT_OF_RANGE, made, (x, both) -> x.capture(both, both), -1, 26, MIN, MAX);
        is.promise(14, "If several exceptions apply, the one that is documented first is thrown");
        is.refusedEach("title, with six stars", Checks.OUT_OF_RANGE, () -> Checks.text("***** a"),
            (x, title) -> x.capture(0, title), -1, 26, MIN, MAX);
        is.refusedEach("under, with 60 lines", Checks.OUT_OF_RANGE, () -> Checks.fill(Checks.text("* a"), 0, 60),
            (x, under) -> x.capture(under, 0), -1, 26, MIN, MAX);
    }

    // ---- archive

    private static void archiveOfThePart() {
        is.promise(15, "Archives the part of an entry: it is gone from the text");
        Outlinery x = Checks.text("ahead", "* a", "1", "** b", "", "** c", "* d");
        is.due("one in the middle", 1, () -> x.archive(1));
        is.dueLines("one in the middle", x, "ahead", "* a", "1", "** c", "* d");
        is.due("with all below it", 2, () -> x.archive(0));
        is.dueLines("with all below it", x, "ahead", "* d");
        is.due("the last one", 3, () -> x.archive(0));
        is.dueLines("the last one", x, "ahead");
        Outlinery all = Checks.fill(Checks.text("* a"), 1, 60);
        is.due("60 lines", 1, () -> all.archive(0));
        is.due("no line is left", 0, all::lines);
        is.due("60 lines again", 60, () -> all.bringBack() + all.lines());
    }

    private static Outlinery withArchived(int many, String... lines) {
        Outlinery x = new Outlinery();
        for (int i = 0; i < many; i++) {
            Checks.put(x, "* " + (char) ('p' + i));
            x.archive(0);
        }
        Checks.put(x, lines);
        return x;
    }

    private static void archiveUpToFive() {
        is.promise(15, "Returns how many parts are archived. Throws IllegalStateException if there are 5");
        Outlinery x = Checks.text("* a", "* b", "* c", "* d", "* e", "* f");
        for (int i = 1; i <= 5; i++) {
            is.due("part " + i, i, () -> x.archive(0));
        }
        is.cannot("a sixth one", () -> x.archive(0));
        is.dueLines("the sixth one", x, "* f");
        is.refused("a sixth one", Checks.CANNOT, () -> withArchived(5, "* a", "1"), y -> y.archive(0));
        is.due("one is brought back", 4, x::bringBack);
        is.due("there is room for one again", 5, () -> x.archive(0));
        is.cannot("and not for two", () -> x.archive(0));
        Outlinery large = new Outlinery();
        for (int i = 0; i < 5; i++) {
            Checks.put(large, "* " + i);
            Checks.fill(large, 1, 60);
            large.archive(0);
        }
        is.due("five of 60 lines, the last one", 64, () -> large.bringBack() + large.lines());
        is.due("its title", '4', () -> large.signAt(0, 2));
        is.due("its last line", (char) 0, () -> large.signAt(59, 0));
        for (int i = 0; i < 63; i++) {
            large.rub(0);
        }
        is.due("five of 60 lines, the one ahead of it", 63, () -> large.bringBack() + large.lines());
        is.due("its title", '3', () -> large.signAt(0, 2));
        Outlinery refused = withArchived(4);
        Checks.put(refused, "* a", "** b", "* c", "** d");
        refused.archive(1);
        is.cannot("a sixth one below c", () -> refused.archive(2));
        refused.bringBack();
        is.dueLines("the fifth one is below a still", refused, "* a", "** b", "* c", "** d");
    }

    private static void archiveThrows() {
        is.promise(15, "Throws IndexOutOfBoundsException if there is no such entry");
        is.refusedEach("entry", Checks.NO_SUCH, () -> Checks.text("a", "* a", "** b"), (x, entry) -> x.archive(entry), -1, 2, MIN,
            MAX);
        is.refusedEach("entry, without headings", Checks.NO_SUCH, () -> Checks.text("a"), (x, entry) -> x.archive(entry), -1, 0,
            MIN, MAX);
        is.promise(15, "If several exceptions apply, the one that is documented first is thrown");
        is.refusedEach("entry, with 5 parts", Checks.NO_SUCH, () -> withArchived(5, "* a"), (x, entry) -> x.archive(entry), -1, 1,
            MIN, MAX);
    }

    // ---- bringBack

    private static void bringBackTheLastOne() {
        is.promise(16, "Brings the part that was archived last back. Returns how many parts are archived still");
        Outlinery x = Checks.text("* a", "1", "* b", "* c", "3", "4", "* d", "* e");
        for (int i = 0; i < 5; i++) {
            x.archive(0);
        }
        is.due("e", 4, x::bringBack);
        is.dueLines("e", x, "* e");
        is.due("d", 3, x::bringBack);
        is.due("c", 2, x::bringBack);
        is.dueLines("c", x, "* e", "* d", "* c", "3", "4");
        is.due("b", 1, x::bringBack);
        is.due("a", 0, x::bringBack);
        is.dueLines("a", x, "* e", "* d", "* c", "3", "4", "* b", "* a", "1");
        is.cannot("none", x::bringBack);
    }

    private static void bringBackUnderTheFirst() {
        is.promise(16, "at the end of the part of the first entry whose title begins with the sign that is kept with it");
        Outlinery x = Checks.text("* ax", "** b", "1", "* c");
        x.archive(1);
        Checks.put(x, "** TODO a");
        is.due("under the first a", 0, x::bringBack);
        is.dueLines("under the first a", x, "* ax", "** b", "1", "* c", "** TODO a");
        Outlinery ahead = Checks.text("* a", "** b", "* c");
        ahead.archive(1);
        ahead.line(0);
        Checks.write(ahead, 0, "*** ay");
        ahead.line(1);
        Checks.write(ahead, 1, "***** d");
        is.due("under another a, ahead", 0, ahead::bringBack);
        is.dueLines("under another a, ahead", ahead, "*** ay", "***** d", "** b", "* a", "* c");
        for (String sign : new String[] {" ", "!", "~", "*", ":", "9"}) {
            Outlinery other = Checks.text("* " + sign + "x", "** b", "* c");
            other.archive(1);
            other.bringBack();
            is.dueLines("the sign '" + sign + "'", other, "* " + sign + "x", "** b", "* c");
        }
        Outlinery state = Checks.text("* TODO a", "** b", "* T");
        state.archive(1);
        state.bringBack();
        is.dueLines("the sign of the title, not of the state", state, "* TODO a", "** b", "* T");
    }

    private static void bringBackAtTheEnd() {
        is.promise(16, "otherwise, also if it had no parent, or that had no title, at the end of the text");
        Outlinery gone = Checks.text("* a", "** b", "* c", "1");
        gone.archive(1);
        gone.rub(0);
        Checks.write(gone, 0, "d");
        gone.bringBack();
        is.dueLines("such a title is gone", gone, "* d", "* c", "1", "** b");
        Outlinery top = Checks.text("* b", "* b", "* c");
        top.archive(0);
        top.bringBack();
        is.dueLines("it had no parent", top, "* b", "* c", "* b");
        Outlinery deep = Checks.text("*** b", "1", "* ", "*  :a:");
        deep.archive(0);
        deep.bringBack();
        is.dueLines("it had no parent, and there are no titles", deep, "* ", "*  :a:", "*** b", "1");
        for (String parent : new String[] {"* ", "* TODO ", "*  :a:", "* TODO  :a:"}) {
            Outlinery none = Checks.text(parent, "** b", parent, "* c");
            none.archive(1);
            none.bringBack();
            is.dueLines("its parent was '" + parent + "'", none, parent, parent, "* c", "** b");
        }
        Outlinery empty = Checks.text("* a", "** b");
        empty.archive(1);
        empty.archive(0);
        empty.bringBack();
        is.dueLines("into a text without lines", empty, "* a");
        empty.bringBack();
        is.dueLines("and then under it", empty, "* a", "** b");
    }

    private static void bringBackAsItWas() {
        is.promise(16, "as it was");
        Outlinery x = Checks.text("* a", "** TODO b :x:", "%0-", "@5-5+7", "", "*** c", "***** d", "|=a1", "* e");
        x.archive(1);
        x.shift(0, true);
        x.shift(0, true);
        x.pass(100);
        x.clockOut(0);
        x.today(50);
        is.due("brought back", 0, x::bringBack);
        is.dueLines("brought back", x, "*** a", "** TODO b :x:", "%0-", "@5-5+7", "", "*** c", "***** d", "|=a1", "* e");
    }

    private static void bringBackThrows() {
        is.promise(16, "Throws IllegalStateException if there is none");
        is.refused("without parts", Checks.CANNOT, () -> Checks.text("* a"), Outlinery::bringBack);
        is.refused("without lines", Checks.CANNOT, Outlinery::new, Outlinery::bringBack);
        is.promise(16, "Throws IllegalStateException if lines would be too many");
        Checks.Made made = () -> {
            Outlinery x = Checks.text("* a", "** b", "1", "2");
            x.archive(1);
            return x;
        };
        Outlinery fits = Checks.fill(made.make(), 1, 57);
        is.due("3 and 57", 0, fits::bringBack);
        is.due("60 lines", 60, fits::lines);
        is.due("the last line", '2', () -> fits.signAt(59, 0));
        is.refused("3 and 58", Checks.CANNOT, () -> Checks.fill(made.make(), 1, 58), Outlinery::bringBack);
        is.refused("3 and 60", Checks.CANNOT, () -> Checks.fill(made.make(), 0, 60), Outlinery::bringBack);
    }
}

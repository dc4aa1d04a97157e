/**
 * One method or more for each promise of the document: ordinary calls, the edges that it names, and
 * each refusal. What is due was worked out from the document by hand.
 */
public final class PromisesTest {
    private static final int BAD = -2, OTHER = -3, NOTHING = -4, STUCK = -5, FULL = -6;
    private static final int LEAST = Integer.MIN_VALUE, MOST = Integer.MAX_VALUE;

    private static EditsMeet x;

    public static void main(String[] args) {
        aNewObject();
        row();
        setAndElement();
        setOfEachSort();
        copy();
        holdsAndShow();
        says();
        feedAndWipe();
        editReads();
        editFaults();
        of();
        part();
        letter();
        spelled();
        behind();
        behindMarks();
        fullEdits();
        longTexts();
        over();
        overMarks();
        turned();
        differ();
        does();
        insert();
        cut();
        mark();
        serve();
        hear();
        hearWhileWaiting();
        meet();
        meetFull();
        undoRedo();
        undoOverOthers();
        redoOverOthers();
        undoFull();
        undoKeepsTwenty();
        pointAndCursor();
        cursorGoesAlong();
        clientOf();
        takes();
        revision();
        lengthAndText();
        apart();
        marked();
        judge();
        days();
        daysWhereNothingCanBe();
        seed();
        imageAndBack();
        status();
        editsThatChangeNothing();
        Check.end();
    }

    private static void fresh() {
        x = new EditsMeet();
    }

    private static void due(String call, long got, long want) {
        Check.due(call, got, want);
    }

    /** Feeds the tape and reads it. */
    private static int ed(int n, String spelled) {
        for (int i = 0; i < spelled.length(); i++) x.feed(spelled.charAt(i));
        return x.edit(n);
    }

    /** An edit as the class spells it. */
    private static String sp(int n) {
        StringBuilder s = new StringBuilder();
        for (int i = 0; x.spelled(n, i) >= 0; i++) s.append((char) x.spelled(n, i));
        return s.toString();
    }

    private static void spells(String spelled, int n) {
        Check.same("edit " + n, sp(n), spelled);
    }

    /** A text, each letter with its marks behind it, if it has some. */
    private static String tx(int c) {
        StringBuilder s = new StringBuilder();
        for (int i = 0; i < x.length(c); i++) {
            s.append((char) ('a' + x.text(c, i, 0)));
            if (x.text(c, i, 1) != 0) s.append(x.text(c, i, 1));
        }
        return s.toString();
    }

    private static void reads(String text, int c) {
        Check.same("text of " + c, tx(c), text);
    }

    /** Client c writes letters one by one at the end of its text. */
    private static void write(int c, String letters) {
        for (int i = 0; i < letters.length(); i++) x.insert(c, x.length(c), letters.charAt(i) - 'a', 0);
    }

    /** All clients have this text, and nothing is to be undone by clients 1 to 3. */
    private static void allHave(String letters) {
        fresh();
        write(0, letters);
        x.meet();
    }

    private static void aNewObject() {
        fresh();
        due("NONE", EditsMeet.NONE, -1);
        for (int c = 0; c < 5; c++) due("length", x.length(c), 0);
        for (int c = 0; c < 4; c++) {
            for (int w = 0; w < 7; w++) due("clientOf", x.clientOf(c, w), 0);
            due("cursor", x.cursor(c, 0) + x.cursor(c, 1), 0);
        }
        for (int s = 0; s < 8; s++) due("holds", x.holds(s), -1);
        for (int e = 0; e < 12; e++) due("of", x.of(e, 0), NOTHING);
        due("wipe", x.wipe(), 0);
        due("seed", x.seed(1), 1);
        due("meet", x.meet(), 0);
        due("status 14", x.status(14), 12);
    }

    private static void row() {
        fresh();
        due("row", x.row(0, 0, 0), 1);
        due("row", x.row(7, 4, 40), 1);
        due("holds", x.holds(0), 0);
        due("holds", x.holds(7), 4);
        due("set", x.set(7, 39, 5), 1);
        due("row again", x.row(7, 3, 40), 1);
        due("holds", x.holds(7), 3);
        due("a new row is empty", x.element(7, 39), 0);
        due("row", x.row(-1, 0, 1), BAD);
        due("row", x.row(8, 0, 1), BAD);
        due("row", x.row(0, -1, 1), BAD);
        due("row", x.row(0, 5, 1), BAD);
        due("row", x.row(0, 0, -1), BAD);
        due("row", x.row(0, 0, 41), BAD);
        due("row", x.row(LEAST, MOST, MOST), BAD);
        due("status 12", x.status(12), 7);
        due("status 7", x.status(7), 2);
    }

    private static void setAndElement() {
        fresh();
        due("set", x.set(0, 0, 1), NOTHING);
        due("set", x.set(8, 0, 1), BAD);
        due("set", x.set(-1, 0, 1), BAD);
        x.row(0, 3, 2);
        due("set", x.set(0, 2, 1), BAD);
        due("set", x.set(0, -1, 1), BAD);
        due("set", x.set(0, LEAST, 1), BAD);
        due("set", x.set(0, 1, Long.MIN_VALUE), 1);
        due("element", x.element(0, 1), Long.MIN_VALUE);
        due("element", x.element(0, 0), 0);
        due("element", x.element(0, 2), 0);
        due("element", x.element(0, -1), 0);
        due("element", x.element(0, MOST), 0);
        due("element", x.element(1, 0), 0);
        due("element", x.element(8, 0), 0);
        due("element", x.element(-1, 0), 0);
        ed(0, "=5");
        x.show(0, 0, 0);
        due("set", x.set(0, 7, 1), OTHER);
        due("element", x.element(0, 0), 0);
        due("status 12", x.status(12), 5);
        due("status 13", x.status(13), 1);
        due("status 14", x.status(14), 1);
        x.row(0, 3, 2);
        due("a row behind a part is new", x.element(0, 1), 0);
    }

    private static void setOfEachSort() {
        fresh();
        long[] given = {0x1234567890abcdefL, 255, 128, 65535, 32768, 1L << 32, 2, -1, 0};
        long[][] kept = {
            {(byte) 0xef, -1, -128, -1, 0, 0, 2, -1, 0},
            {(short) 0xcdef, 255, 128, -1, -32768, 0, 2, -1, 0},
            {(int) 0x90abcdefL, 255, 128, 65535, 32768, 0, 2, -1, 0},
            given,
            {1, 1, 1, 1, 1, 1, 1, 1, 0},
        };
        for (int sort = 0; sort < 5; sort++) {
            x.row(sort, sort, given.length);
            for (int i = 0; i < given.length; i++) {
                x.set(sort, i, given[i]);
                due("sort " + sort + " keeps " + given[i], x.element(sort, i), kept[sort][i]);
            }
        }
    }

    private static void copy() {
        fresh();
        ed(0, "=5");
        x.show(5, 0, 0);
        x.row(0, 2, 5);
        x.row(1, 2, 3);
        x.row(2, 3, 3);
        for (int i = 0; i < 5; i++) x.set(0, i, 10 + i);
        due("copy", x.copy(0, 1, 3, 1, 2), 2);
        due("element", x.element(1, 0), 0);
        due("element", x.element(1, 1), 13);
        due("element", x.element(1, 2), 14);
        due("copy in itself, up", x.copy(0, 0, 0, 1, 4), 4);
        for (int i = 1; i < 5; i++) due("as they were", x.element(0, i), 9 + i);
        due("copy in itself, down", x.copy(0, 0, 1, 0, 4), 4);
        for (int i = 0; i < 4; i++) due("as they were", x.element(0, i), 10 + i);
        due("copy none", x.copy(0, 1, 5, 3, 0), 0);
        due("copy", x.copy(0, 1, 0, 0, 4), BAD);
        due("copy", x.copy(0, 1, 0, 1, 3), BAD);
        due("copy", x.copy(0, 1, 4, 0, 2), BAD);
        due("copy", x.copy(0, 1, -1, 0, 1), BAD);
        due("copy", x.copy(0, 1, 0, -1, 1), BAD);
        due("copy", x.copy(0, 1, 0, 0, -1), BAD);
        due("copy", x.copy(0, 1, MOST, 0, 2), BAD);
        due("copy", x.copy(0, 1, 2, 2, MOST), BAD);
        due("copy", x.copy(8, 0, 0, 0, 1), BAD);
        due("copy", x.copy(0, -1, 0, 0, 1), BAD);
        due("two sorts", x.copy(0, 2, 0, 0, 1), OTHER);
        due("two sorts ahead of bad", x.copy(0, 2, 9, 0, 1), OTHER);
        due("a part", x.copy(0, 5, 0, 0, 1), OTHER);
        due("a part ahead of nothing", x.copy(5, 6, 0, 0, 1), OTHER);
        due("nothing", x.copy(0, 6, 0, 0, 1), NOTHING);
        due("nothing ahead of bad", x.copy(6, 0, 99, 0, 1), NOTHING);
        due("nothing", x.copy(6, 7, 0, 0, 0), NOTHING);
        due("nothing was changed", x.element(1, 1), 13);
    }

    private static void holdsAndShow() {
        fresh();
        ed(0, "+ab-2=1^1.3");
        due("show", x.show(0, 0, 0), 1);
        due("show", x.show(1, 0, 1), 1);
        due("show", x.show(2, 0, 2), 1);
        due("show", x.show(7, 0, 3), 1);
        due("holds", x.holds(0), 11);
        due("holds", x.holds(1), 14);
        due("holds", x.holds(2), 13);
        due("holds", x.holds(7), 15);
        due("holds", x.holds(3), -1);
        due("holds", x.holds(-1), -1);
        due("holds", x.holds(8), -1);
        due("show", x.show(8, 0, 0), BAD);
        due("show", x.show(-1, -1, 0), BAD);
        due("show", x.show(0, -2, 0), BAD);
        due("show", x.show(0, 12, 0), BAD);
        due("show", x.show(0, 1, 0), NOTHING);
        due("show", x.show(0, 1, 99), NOTHING);
        due("show", x.show(0, 0, 4), BAD);
        due("show", x.show(0, 0, -1), BAD);
        due("holds the same", x.holds(0), 11);
        ed(0, "=3");
        due("as it was when it was shown", x.says(0, 0), 2);
        due("show nothing", x.show(0, -1, 77), 1);
        due("holds", x.holds(0), -1);
        due("show nothing of nothing", x.show(6, -1, 0), 1);
        due("status 7", x.status(7), 3);
    }

    private static void says() {
        fresh();
        ed(0, "+zb-3=2^4.11_1.2");
        ed(1, "_7.6");
        ed(2, "^7.9");
        x.behind(3, 2, 1);
        long[][] due = {
            {2, 25, OTHER, OTHER, OTHER, OTHER},
            {3, OTHER, 3, OTHER, 103, OTHER},
            {2, OTHER, 2, 0, OTHER, OTHER},
            {4, OTHER, 4, 3, OTHER, 176},
            {1, OTHER, 1, 1, OTHER, 2},
        };
        for (int i = 0; i < due.length; i++) {
            x.show(0, 0, i);
            for (int k = 0; k < 6; k++) due("part " + i + " as " + k, x.says(0, k), due[i][k]);
        }
        x.show(0, 3, 0);
        due("on and off", x.says(0, 5), 16 * 9 + 6);
        due("bits that it turns", x.says(0, 3), 4);
        due("says", x.says(0, 6), BAD);
        due("says", x.says(0, -1), BAD);
        due("says", x.says(8, 0), BAD);
        due("says", x.says(-1, 0), BAD);
        due("says", x.says(1, 0), NOTHING);
        x.row(1, 0, 3);
        due("says", x.says(1, 0), OTHER);
        due("says", x.says(1, 9), BAD);
    }

    private static void feedAndWipe() {
        fresh();
        due("feed", x.feed(0), 1);
        due("feed", x.feed(255), 2);
        due("feed", x.feed(256), BAD);
        due("feed", x.feed(-1), BAD);
        for (int i = 3; i <= 250; i++) due("feed", x.feed(61), i);
        due("feed", x.feed(61), FULL);
        due("feed bad ahead of full", x.feed(-1), BAD);
        due("status 5", x.status(5), 250);
        due("wipe", x.wipe(), 250);
        due("wipe", x.wipe(), 0);
        due("feed", x.feed(61), 1);
        due("status 12", x.status(12), 3);
        due("status 16", x.status(16), 1);
    }

    private static void editReads() {
        fresh();
        due("edit", ed(0, "=1"), 1);
        due("edit", ed(11, "=99-01^9.1_09.15+az"), 5);
        spells("=99-1^9.1_9.15+az", 11);
        due("the tape is empty", x.status(5), 0);
        due("two keeps", ed(0, "=1=2"), 1);
        spells("=3", 0);
        due("two marks", ed(0, "^1.3^2.3"), 1);
        spells("^3.3", 0);
        due("unlike marks", ed(0, "^1.3_2.3^1.2"), 3);
        due("inserts", ed(0, "+a+b"), 1);
        spells("+ab", 0);
        due("insert behind a delete", ed(0, "-1+a"), 2);
        spells("+a-1", 0);
        due("inserts about a delete", ed(0, "+a-1+b-2+c=1"), 3);
        spells("+abc-3=1", 0);
        due("marks about a delete", ed(0, "^1.1-1^1.1"), 3);
        due("wipe", x.wipe(), 0);
        StringBuilder all = new StringBuilder();
        for (int i = 0; i < 125; i++) all.append("+a");
        due("250 bytes", ed(0, all.toString()), 1);
        due("of", x.of(0, 3), 125);
    }

    private static void editFaults() {
        fresh();
        ed(3, "=7");
        String[] tapes = {"", "a", "=", "=a", "=0", "=00", "=100", "=000", "=1 ", " =1", "=1.", "+", "+A", "+a1", "+a=",
            "+a{", "+`", "^", "^1", "^1=", "^1.", "^1.0", "^1.16", "^1.015", "^1.00", "^0.1", "^100.1", "^1.1.", "^1.1_", "_2",
            "_2.16", "-", "-0", "-1-", "=1=1=0", "^2.99", "^2.100", "=1/", "=1:", "*", "^1,1", "=\0", "+a\0", "\0", "=\u00ff", "^1.1_1"};
        int[] faults = {0, 0, 1, 1, 1, 1, 3, 1, 2, 0, 2, 1, 1, 2, 3,
            2, 1, 1, 2, 2, 3, 3, 3, 5, 3, 1, 3, 4, 5, 2,
            3, 1, 1, 3, 5, 3, 5, 2, 2, 0, 2, 1, 2, 0, 1, 6};
        for (int i = 0; i < tapes.length; i++) {
            due("fault of " + tapes[i], ed(3, tapes[i]), -300 - faults[i]);
            due("the tape is empty", x.status(5), 0);
        }
        due("status 12", x.status(12), tapes.length);
        spells("=7", 3);
        x.feed(61);
        due("no such number", x.edit(-1), BAD);
        due("the tape is empty", x.status(5), 0);
        due("no such number", ed(12, "=1"), BAD);
        due("no such number", ed(MOST, ""), BAD);
        due("status 12", x.status(12), tapes.length + 3);
        due("status 2", x.status(2), 1);
    }

    private static void of() {
        fresh();
        ed(4, "=3-2+abc^4.1_5.2=1");
        int[] due = {6, 15, 16, 3, 2, 9};
        for (int w = 0; w < 6; w++) due("of " + w, x.of(4, w), due[w]);
        due("of", x.of(4, 6), BAD);
        due("of", x.of(4, -1), BAD);
        due("of", x.of(12, 0), BAD);
        due("of", x.of(-1, 0), BAD);
        due("of", x.of(5, 0), NOTHING);
        due("of bad ahead of nothing", x.of(5, 6), BAD);
    }

    private static void part() {
        fresh();
        ed(4, "=3-2+abc^4.1_5.2");
        ed(0, "^5.9");
        ed(1, "_5.6");
        x.behind(2, 0, 1);
        int[][] due = {{3, 3, 0, 0}, {1, 3, 0, 0}, {4, 2, 0, 0}, {5, 4, 1, 0}, {5, 5, 0, 2}};
        for (int i = 0; i < due.length; i++) {
            for (int w = 0; w < 4; w++) due("part " + i + " " + w, x.part(4, i, w), due[i][w]);
        }
        due("on", x.part(2, 0, 2), 9);
        due("off", x.part(2, 0, 3), 6);
        due("part", x.part(4, 5, 0), BAD);
        due("part", x.part(4, -1, 0), BAD);
        due("part", x.part(4, 0, 4), BAD);
        due("part", x.part(4, 0, -1), BAD);
        due("part", x.part(12, 0, 0), BAD);
        due("part", x.part(-1, 0, 0), BAD);
        due("part", x.part(5, 99, 0), NOTHING);
        due("part bad ahead of nothing", x.part(5, 0, 4), BAD);
    }

    private static void letter() {
        fresh();
        ed(4, "+ab=3+zy-1");
        due("letter", x.letter(4, 0, 0), 0);
        due("letter", x.letter(4, 0, 1), 1);
        due("letter", x.letter(4, 2, 0), 25);
        due("letter", x.letter(4, 2, 1), 24);
        ed(5, "=1^1.5=5");
        x.behind(5, 4, 5);
        due("marked", x.letter(5, 0, 1), 501);
        due("not marked", x.letter(5, 0, 0), 0);
        due("letter", x.letter(4, 2, 2), BAD);
        due("letter", x.letter(4, 2, -1), BAD);
        due("letter", x.letter(4, 4, 0), BAD);
        due("letter", x.letter(4, -1, 0), BAD);
        due("letter", x.letter(4, 1, 0), OTHER);
        due("other ahead of k", x.letter(4, 1, 99), OTHER);
        due("letter", x.letter(12, 0, 0), BAD);
        due("letter", x.letter(-1, 0, 0), BAD);
        due("letter", x.letter(6, 99, 0), NOTHING);
    }

    private static void spelled() {
        fresh();
        ed(0, "=09-10+az^3.07_99.15");
        spells("=9+az-10^3.7_99.15", 0);
        due("spelled", x.spelled(0, 0), '=');
        due("none", x.spelled(0, 18), -1);
        due("none", x.spelled(0, -1), -1);
        due("none", x.spelled(0, MOST), -1);
        due("none is not refused", x.status(12), 0);
        ed(1, "^2.12");
        ed(2, "_2.7");
        x.behind(3, 1, 2);
        spells("^2.8_7", 3);
        ed(4, "=99=99=99");
        spells("=297", 4);
        due("spelled", x.spelled(12, 0), BAD);
        due("spelled", x.spelled(-1, 0), BAD);
        due("spelled", x.spelled(5, 0), NOTHING);
        x.insert(0, 0, 2, 15);
        x.takes(6, 0, 0);
        spells("+c", 6);
    }

    private static int behindOf(String a, String b) {
        ed(0, a);
        ed(1, b);
        return x.behind(2, 0, 1);
    }

    private static void behind() {
        fresh();
        String[][] due = {
            {"=2", "=2", "=2"},
            {"+abc", "=1-1=1", "+ac"},
            {"=2+x=2", "=3+y=2", "=2+xy=2"},
            {"=2+x=2", "=2+y=3", "=2+yx=2"},
            {"=2-2", "=2+y", "=2+y-2"},
            {"=1-1=1", "-1=1", "-2=1"},
            {"=1-1=1", "=1-1", "=1-2"},
            {"+ab-2", "-2+cd", "+cd-2"},
            {"=1+a=1", "-1=1-1", "+a-2"},
            {"=3", "=1+q-1=1", "=1+q-1=1"},
            {"+a=1+b", "=1-1=1", "+ab-1"},
            {"-2=2", "+a-1=1", "+a-3=1"},
        };
        for (String[] d : due) {
            int parts = behindOf(d[0], d[1]);
            spells(d[2], 2);
            due("parts", parts, x.of(2, 0));
        }
        due("nothing is left", behindOf("+ab", "-2"), 0);
        due("from", x.of(2, 1), 0);
        due("spelled", x.spelled(2, 0), -1);
        due("nothing put behind itself", x.behind(2, 2, 2), 0);
        ed(0, "+a=1");
        ed(1, "+b=2");
        due("into a", x.behind(0, 0, 1), 2);
        spells("+ba=1", 0);
        due("lengths", x.behind(2, 1, 1), STUCK);
        due("into none", x.behind(9, 0, 3), NOTHING);
        due("none", x.behind(2, 3, 0), NOTHING);
        due("bad", x.behind(12, 0, 1), BAD);
        due("bad", x.behind(2, -1, 1), BAD);
        due("bad", x.behind(2, 0, 12), BAD);
        due("bad ahead of nothing", x.behind(12, 3, 3), BAD);
    }

    private static void behindMarks() {
        fresh();
        behindOf("^3.12", "_3.4");
        spells("^3.8_4", 2);
        behindOf("^3.4", "_3.4");
        spells("_3.4", 2);
        behindOf("_3.4", "^3.4");
        spells("^3.4", 2);
        behindOf("^2.3", "^1.4=1");
        spells("^1.7^1.3", 2);
        behindOf("^1.3^1.1", "=1^1.2");
        spells("^2.3", 2);
        behindOf("+abc", "=1^2.6");
        spells("+abc", 2);
        due("a marked letter", x.letter(2, 0, 1), 601);
        due("a letter without", x.letter(2, 0, 0), 0);
        x.takes(0, 0, 0);
        x.behind(0, 2, 2);
        ed(1, "=2_1.2");
        x.behind(3, 2, 1);
        due("some marks off", x.letter(3, 0, 2), 402);
        due("the other one keeps its", x.letter(3, 0, 1), 601);
        behindOf("^4.1", "-1=1-2");
        spells("-1^1.1-2", 2);
    }

    private static String many(String s, int n) {
        StringBuilder all = new StringBuilder();
        for (int i = 0; i < n; i++) all.append(s);
        return all.toString();
    }

    private static void fullEdits() {
        fresh();
        ed(0, "+" + many("a", 200));
        ed(1, "=99=99=2+" + many("b", 200));
        due("400 letters", x.behind(2, 0, 1), 1);
        due("of", x.of(2, 3), 400);
        ed(3, "+c=99=99=99=99=4");
        due("401 letters", x.behind(4, 2, 3), FULL);
        due("none of it stays", x.of(4, 0), NOTHING);
        due("over keeps them", x.over(4, 2, 2, 1), 2);
        spells("+" + many("a", 200) + many("b", 200) + "=400", 4);
        // Each step is for 100 letters more: edit 5 inserts 100, edit 6 keeps all.
        ed(5, "+" + many("x", 100) + many("=99", 48) + "=47");
        ed(6, many("=99", 48) + "=47");
        for (int k = 0; k < 51; k++) {
            due("keeps over inserts", x.over(6, 6, 5, 0), 1);
            due("inserts over themselves", x.over(5, 5, 5, 1), 2);
        }
        due("from", x.of(5, 1), 9899);
        due("to", x.of(5, 2), 9999);
        due("to above 9999", x.over(7, 5, 5, 1), FULL);
        due("none of it stays", x.of(7, 0), NOTHING);
        due("from and to of 9999", x.over(6, 6, 5, 0), 1);
        spells("=9999", 6);
        due("behind itself", x.behind(7, 6, 6), 1);
        due("status 16", x.status(16), 2);
    }

    /** Four clients write 60 letters each, then each puts 240 new ones for all of these. */
    private static void writeMuch() {
        fresh();
        for (int c = 0; c < 4; c++) {
            ed(0, "+" + many("a", 60));
            due("does", x.does(c, 0), 60);
        }
        x.meet();
        for (int c = 0; c < 4; c++) {
            ed(0, "-99-99-42+" + many("" + (char) ('p' + c), 240));
            due("does", x.does(c, 0), 240);
        }
        x.meet();
        due("length", x.length(4), 960);
    }

    private static void longTexts() {
        writeMuch();
        Check.same("text", tx(3), many("p", 240) + many("q", 240) + many("r", 240) + many("s", 240));
        ed(1, "-99-99-99-99-04" + many("=99", 5) + "=65");
        due("turned: 400 letters", x.turned(2, 1, 0), 2);
        ed(1, "-99-99-99-99-05" + many("=99", 5) + "=64");
        due("turned: 401 letters", x.turned(3, 1, 0), FULL);
        due("does", x.does(0, 1), 559);
        due("insert", x.insert(1, 0, 0, 0), FULL);
        ed(1, "+a-2" + many("=99", 9) + "=67");
        due("shorter, but above 60", x.does(1, 1), 959);
        ed(1, "+b-1" + many("=99", 9) + "=67");
        due("as long, and above 60", x.does(1, 1), 959);
        ed(1, "+b" + many("=99", 9) + "=68");
        due("longer, and above 60", x.does(1, 1), FULL);
        due("undo what keeps the length", x.undo(1), 3);
        due("undo would be longer", x.undo(1), FULL);
        due("redo", x.redo(1), 0);
        x.cut(2, 0, 960);
        due("undo would be longer", x.undo(2), FULL);
        due("takes has no such limit", x.takes(4, 2, 2), 1);
        due("of", x.of(4, 3), 960);
    }

    private static int overOf(String a, String b, int first) {
        ed(0, a);
        ed(1, b);
        return x.over(2, 0, 1, first);
    }

    private static void over() {
        fresh();
        String[][] due = {
            // a, b, a over b first 0, first 1
            {"=2", "=2", "=2", "=2"},
            {"+a=2", "+b=2", "=1+a=2", "+a=3"},
            {"=1+a=1", "+b=2", "=2+a=1", "=2+a=1"},
            {"+a=2", "=1+b=1", "+a=3", "+a=3"},
            {"-1=1", "=1-1", "-1", "-1"},
            {"-2", "-2", "", ""},
            {"-2", "-1=1", "-1", "-1"},
            {"=2", "-1+xy=1", "=3", "=3"},
            {"=1+a=1", "-2", "+a", "+a"},
            {"=1+a=1", "-2+b", "=1+a", "=1+a"},
            {"+a=2", "-2+b", "=1+a", "+a=1"},
            {"-2+a", "=1+b=1", "+a-1=1-1", "+a-1=1-1"},
            {"-2+a", "=2+b", "+a-2=1", "+a-2=1"},
            {"-2+a", "-2+b", "=1+a", "+a=1"},
            {"^2.1", "=1+b=1", "^1.1=1^1.1", "^1.1=1^1.1"},
            {"^2.1", "-2", "", ""},
            {"-1=1+a", "-2", "+a", "+a"},
            {"+ab=1+cd", "+xyz=1+w", "=3+ab=2+cd", "+ab=4+cd=1"},
        };
        for (String[] d : due) {
            int parts = overOf(d[0], d[1], 0);
            spells(d[2], 2);
            due("parts", parts, x.of(2, 0));
            parts = overOf(d[0], d[1], 1);
            spells(d[3], 2);
            due("parts", parts, x.of(2, 0));
        }
        ed(0, "+a=1");
        ed(1, "=2");
        due("from", x.over(2, 0, 1, 0), STUCK);
        due("none", x.over(2, 0, 3, 0), NOTHING);
        due("none", x.over(2, 3, 0, 0), NOTHING);
        due("first", x.over(2, 0, 0, 2), BAD);
        due("first", x.over(2, 3, 0, -1), BAD);
        due("bad", x.over(12, 0, 0, 0), BAD);
        due("bad", x.over(2, 12, 0, 0), BAD);
        due("bad", x.over(2, 0, -1, 0), BAD);
        due("into b", x.over(0, 0, 0, 1), 2);
        spells("+a=2", 0);
    }

    private static void overMarks() {
        fresh();
        overOf("^3.7", "=1^1.2_1.4", 0);
        spells("^3.7", 2);
        overOf("^3.7", "=1^1.2_1.4", 1);
        spells("^1.7^1.5^1.3", 2);
        overOf("_2.3", "^2.3", 1);
        spells("=2", 2);
        overOf("_2.3", "^2.3", 0);
        spells("_2.3", 2);
        overOf("-2", "^2.3", 1);
        spells("-2", 2);
        overOf("^1.1_1.1", "_2.1", 1);
        spells("=2", 2);
    }

    private static void turned() {
        fresh();
        x.insert(0, 0, 0, 1);
        x.insert(0, 1, 1, 2);
        x.insert(0, 2, 2, 0);
        ed(0, "=1+xy-1=1");
        due("turned", x.turned(1, 0, 0), 4);
        spells("=1+b-2=1", 1);
        due("with its marks", x.letter(1, 1, 0), 201);
        ed(0, "^3.3");
        due("turned", x.turned(1, 0, 0), 3);
        spells("_1.2_1.1_1.3", 1);
        ed(0, "_3.3");
        x.turned(1, 0, 0);
        spells("^1.1^1.2=1", 1);
        ed(0, "^1.1^1.2=1");
        due("nothing was otherwise", x.turned(0, 0, 0), 1);
        spells("=3", 0);
        ed(0, "-3");
        due("turned", x.turned(1, 0, 0), 1);
        spells("+abc", 1);
        due("marks", x.letter(1, 0, 0), 100);
        due("lengths", x.turned(1, 0, 1), STUCK);
        due("bad", x.turned(1, 0, 4), BAD);
        due("bad", x.turned(1, 0, -1), BAD);
        due("bad", x.turned(12, 0, 0), BAD);
        due("bad", x.turned(1, -1, 0), BAD);
        due("none", x.turned(1, 5, 0), NOTHING);
        spells("+abc", 1);
    }

    private static void differ() {
        fresh();
        ed(0, "=1+ab-2^3.5");
        ed(1, "=1+ab-2^3.5");
        ed(2, "=1+ac-2^3.5");
        ed(3, "=1+ab-2^3.4");
        ed(4, "=1+ab-2");
        ed(5, "=2+ab-2^3.5");
        due("differ", x.differ(0, 1), -1);
        due("differ", x.differ(0, 0), -1);
        due("a letter", x.differ(0, 2), 1);
        due("bits", x.differ(3, 0), 3);
        due("one ends", x.differ(0, 4), 3);
        due("one ends", x.differ(4, 0), 3);
        due("how many", x.differ(0, 5), 0);
        x.insert(0, 0, 0, 0);
        x.insert(1, 0, 0, 8);
        x.takes(6, 0, 0);
        x.takes(7, 1, 0);
        due("marks of a letter", x.differ(6, 7), 0);
        ed(8, "+ab=1+cd");
        ed(9, "+ab=1+ce");
        ed(10, "+ab=1+cde");
        due("a letter of the second insert", x.differ(8, 9), 2);
        due("how many letters", x.differ(10, 8), 2);
        ed(10, "+ab=1+cd=1");
        due("as far as one goes", x.differ(8, 10), 3);
        due("none is not refused", x.status(12) + x.status(14), 0);
        due("bad", x.differ(-1, 0), BAD);
        due("bad", x.differ(0, 12), BAD);
        due("none", x.differ(0, 11), NOTHING);
        due("none", x.differ(11, 0), NOTHING);
    }

    private static void does() {
        fresh();
        ed(0, "+hello");
        due("does", x.does(2, 0), 5);
        reads("hello", 2);
        ed(0, "=1-3^1.9+xyz");
        due("does", x.does(2, 0), 5);
        reads("ho9xyz", 2);
        due("parts sent", x.clientOf(2, 1), 1);
        due("parts waiting", x.clientOf(2, 3), 4);
        due("to undo", x.clientOf(2, 4), 2);
        due("from", x.does(1, 0), STUCK);
        due("bad", x.does(4, 0), BAD);
        due("bad", x.does(-1, 0), BAD);
        due("bad", x.does(0, 12), BAD);
        due("none", x.does(0, 9), NOTHING);
        ed(1, "+" + many("a", 60));
        due("60 letters", x.does(0, 1), 60);
        ed(1, "+" + many("a", 61));
        due("61 letters", x.does(1, 1), FULL);
        ed(1, "+a" + "=60");
        due("one more than 60", x.does(0, 1), FULL);
        ed(1, "+a-1=59");
        due("no longer than it is", x.does(0, 1), 60);
        due("other texts are as they were", x.length(1), 0);
    }

    private static void insert() {
        fresh();
        due("insert", x.insert(3, 0, 25, 15), 1);
        due("insert", x.insert(3, 0, 0, 0), 2);
        due("insert", x.insert(3, 1, 1, 7), 3);
        reads("ab7z15", 3);
        due("sent", x.clientOf(3, 1), 1);
        due("waits", x.clientOf(3, 3), 2);
        x.takes(0, 3, 1);
        spells("+ab=1", 0);
        due("with marks", x.letter(0, 0, 1), 701);
        due("bad", x.insert(4, 0, 0, 0), BAD);
        due("bad", x.insert(-1, 0, 0, 0), BAD);
        due("bad", x.insert(3, 4, 0, 0), BAD);
        due("bad", x.insert(3, -1, 0, 0), BAD);
        due("bad", x.insert(3, 0, 26, 0), BAD);
        due("bad", x.insert(3, 0, -1, 0), BAD);
        due("bad", x.insert(3, 0, 0, 16), BAD);
        due("bad", x.insert(3, 0, 0, -1), BAD);
        for (int n = 4; n <= 60; n++) due("insert", x.insert(3, 1, 3, 0), n);
        due("full", x.insert(3, 60, 3, 0), FULL);
        due("bad ahead of full", x.insert(3, 61, 3, 0), BAD);
        due("status 16", x.status(16), 1);
    }

    private static void cut() {
        fresh();
        write(1, "abcdef");
        due("cut", x.cut(1, 1, 2), 4);
        reads("adef", 1);
        x.takes(0, 1, 1);
        ed(1, "=1+def");
        due("what waits is as if read", x.differ(0, 1), -1);
        due("cut", x.cut(1, 3, 1), 3);
        due("cut", x.cut(1, 0, 3), 0);
        due("nothing to cut", x.cut(1, 0, 1), BAD);
        x.meet();
        write(1, "abc");
        x.meet();
        x.cut(1, 1, 1);
        x.takes(0, 1, 0);
        ed(1, "=1-1=1");
        due("what is sent is as if read", x.differ(0, 1), -1);
        x.cut(1, 0, 2);
        write(1, "abc");
        due("too many", x.cut(1, 1, 3), BAD);
        due("none", x.cut(1, 1, 0), BAD);
        due("less than none", x.cut(1, 1, -1), BAD);
        due("bad", x.cut(1, -1, 1), BAD);
        due("bad", x.cut(1, 3, 1), BAD);
        due("bad", x.cut(1, MOST, MOST), BAD);
        due("bad", x.cut(4, 0, 1), BAD);
        due("bad", x.cut(-1, 0, 1), BAD);
        reads("abc", 1);
    }

    private static void mark() {
        fresh();
        write(1, "abcd");
        due("on", x.mark(1, 1, 2, 3, 1), 2);
        reads("ab8c8d", 1);
        due("on", x.mark(1, 0, 3, 3, 1), 1);
        reads("a8b8c8d", 1);
        due("on", x.mark(1, 0, 4, 0, 1), 4);
        reads("a9b9c9d1", 1);
        due("off", x.mark(1, 2, 2, 3, 0), 1);
        reads("a9b9c1d1", 1);
        due("off where it is off", x.mark(1, 0, 4, 1, 0), 0);
        due("done all the same", x.clientOf(1, 4), 9);
        x.takes(0, 1, 2);
        spells("=4", 0);
        due("too many", x.mark(1, 1, 4, 0, 1), BAD);
        due("none", x.mark(1, 1, 0, 0, 1), BAD);
        due("bad", x.mark(1, -1, 1, 0, 1), BAD);
        due("bad", x.mark(1, 0, 1, 4, 1), BAD);
        due("bad", x.mark(1, 0, 1, -1, 1), BAD);
        due("bad", x.mark(1, 0, 1, 0, 2), BAD);
        due("bad", x.mark(1, 0, 1, 0, -1), BAD);
        due("bad", x.mark(4, 0, 1, 0, 1), BAD);
        due("bad", x.mark(1, MOST, MOST, 0, 1), BAD);
        fresh();
        write(0, "ab");
        x.serve(0);
        x.hear(0);
        x.serve(0);
        x.hear(0);
        x.mark(0, 1, 1, 2, 0);
        x.takes(0, 0, 0);
        spells("=1_1.4", 0);
    }

    private static void serve() {
        fresh();
        due("nothing sent", x.serve(0), STUCK);
        write(0, "ab");
        write(1, "xy");
        due("serve", x.serve(1), 1);
        reads("x", 4);
        due("once", x.serve(1), STUCK);
        due("serve", x.serve(0), 2);
        reads("xa", 4);
        due("revision", x.revision(0, 2), 0);
        spells("=1+a", 0);
        due("hear", x.hear(0), 1);
        due("served already", x.serve(0), STUCK);
        due("hear its own", x.hear(0), 2);
        due("what waited", x.serve(0), 3);
        reads("xab", 4);
        due("bad", x.serve(4), BAD);
        due("bad", x.serve(-1), BAD);
        // What was sent for revision 0 is taken over each of the three that came behind it.
        write(2, "m");
        x.serve(2);
        reads("xabm", 4);
        x.revision(0, 4);
        spells("=3+m", 0);
        for (int n = 5; n <= 90; n++) {
            while (x.clientOf(3, 6) > 0) x.hear(3);
            x.mark(3, 0, 1, 0, n % 2);
            due("serve", x.serve(3), n);
        }
        x.hear(3);
        x.cut(3, 0, 1);
        due("full", x.serve(3), FULL);
        due("stuck ahead of full", x.serve(2), STUCK);
        due("bad ahead of full", x.serve(4), BAD);
        due("status 0", x.status(0), 90);
        due("hear goes on", x.hear(2), 1);
    }

    private static void hear() {
        fresh();
        due("none", x.hear(0), STUCK);
        write(0, "ab");
        x.serve(0);
        due("hear", x.hear(1), 1);
        reads("a", 1);
        due("none behind", x.hear(1), STUCK);
        due("hear its own", x.hear(0), 1);
        reads("ab", 0);
        due("what waited is sent", x.clientOf(0, 1), 2);
        due("and nothing waits", x.clientOf(0, 3), 0);
        due("not served", x.clientOf(0, 2), 0);
        due("bad", x.hear(4), BAD);
        due("bad", x.hear(-1), BAD);
        allHave("abc");
        x.mark(0, 0, 3, 0, 1);
        x.mark(1, 0, 2, 0, 0);
        x.mark(1, 0, 1, 1, 1);
        x.serve(0);
        x.serve(1);
        x.hear(1);
        reads("a2bc1", 1);
        x.hear(0);
        x.hear(0);
        reads("abc1", 0);
        x.meet();
        reads("a2bc1", 4);
        due("all alike", x.status(1), 4);
    }

    private static void hearWhileWaiting() {
        allHave("abc");
        int already = x.status(0);
        x.insert(0, 1, 23, 0);
        x.insert(0, 2, 24, 0);
        x.cut(0, 3, 1);
        reads("axyc", 0);
        x.insert(1, 1, 15, 0);
        x.insert(2, 2, 16, 0);
        x.serve(1);
        x.serve(2);
        x.takes(0, 0, 0);
        spells("=1+x=2", 0);
        x.takes(1, 0, 1);
        spells("=2+y-1=1", 1);
        due("hear", x.hear(0), already + 1);
        reads("apxyc", 0);
        x.takes(0, 0, 0);
        spells("=2+x=2", 0);
        x.takes(1, 0, 1);
        spells("=3+y-1=1", 1);
        x.hear(0);
        reads("apxyqc", 0);
        x.takes(0, 0, 0);
        spells("=2+x=3", 0);
        x.takes(1, 0, 1);
        spells("=3+y-1=2", 1);
        x.serve(0);
        x.revision(2, already + 3);
        spells("=2+x=3", 2);
        reads("apxbqc", 4);
        x.meet();
        for (int c = 0; c < 5; c++) reads("apxyqc", c);
    }

    private static void meet() {
        fresh();
        due("meet", x.meet(), 0);
        for (int c = 3; c >= 0; c--) write(c, "" + (char) ('a' + c) + (char) ('p' + c));
        due("meet", x.meet(), 8);
        for (int n = 1; n <= 8; n++) due("by", x.revision(0, n), (n - 1) % 4);
        for (int c = 0; c < 5; c++) reads("abcdpqrs", c);
        for (int c = 0; c < 4; c++) {
            due("heard", x.clientOf(c, 6), 0);
            due("served", x.clientOf(c, 1), 0);
        }
        due("meet", x.meet(), 8);
        write(2, "z");
        x.serve(2);
        due("served already", x.meet(), 9);
        due("status 16", x.status(16), 0);
    }

    private static void meetFull() {
        fresh();
        for (int n = 1; n <= 88; n++) {
            x.insert(0, 0, n % 26, 0);
            if (x.length(0) > 50) {
                x.meet();
                x.cut(0, 0, 50);
            }
            if (n % 30 == 0) x.meet();
        }
        for (int k = 0; k < 90 && x.meet() < 88; k++) x.mark(0, 0, 1, 0, 1);
        due("status 0", x.status(0), 88);
        x.insert(1, 0, 1, 0);
        x.insert(1, 1, 2, 0);
        x.insert(2, 0, 3, 0);
        x.insert(2, 1, 4, 0);
        x.insert(0, 0, 5, 0);
        x.image();
        due("full", x.meet(), FULL);
        due("status 0", x.status(0), 90);
        due("the 91st would be that of 2", x.clientOf(2, 2), 0);
        due("nobody heard", x.clientOf(3, 6), 2);
        due("status 16", x.status(16), 1);
        x.back();
        x.serve(1);
        due("one each", x.meet(), FULL);
        due("status 16", x.status(16), 2);
        x.back();
        x.undo(2);
        x.undo(2);
        x.hear(2);
        x.meet();
        due("what is sent and changes nothing is served, too", x.status(0), 90);
        x.back();
        for (int c = 0; c < 4; c++) while (x.clientOf(c, 6) > 0) x.hear(c);
        fresh();
        for (int n = 1; n <= 89; n++) {
            write(0, "a");
            x.serve(0);
            x.hear(0);
            if (n % 50 == 0) {
                x.cut(0, 0, 49);
                x.serve(0);
                x.hear(0);
                n++;
            }
        }
        due("status 0", x.status(0), 89);
        write(0, "bc");
        due("the first fits, what waits doesn't", x.meet(), FULL);
        due("what was heard stays", x.clientOf(3, 0), 90);
        due("all heard", x.clientOf(0, 6), 0);
        due("what waited is sent", x.clientOf(0, 1), 2);
        due("again", x.meet(), FULL);
        due("status 0", x.status(0), 90);
    }

    private static void undoRedo() {
        fresh();
        due("stuck", x.undo(0), STUCK);
        due("stuck", x.redo(0), STUCK);
        write(0, "abc");
        x.mark(0, 0, 2, 1, 1);
        x.cut(0, 1, 1);
        reads("a2c", 0);
        due("undo", x.undo(0), 4);
        reads("a2b2c", 0);
        due("undo", x.undo(0), 3);
        reads("abc", 0);
        due("undo", x.undo(0), 2);
        reads("ab", 0);
        due("to redo", x.clientOf(0, 5), 3);
        due("redo", x.redo(0), 2);
        due("redo", x.redo(0), 1);
        reads("a2b2c", 0);
        due("undo again", x.undo(0), 3);
        due("to redo", x.clientOf(0, 5), 2);
        x.insert(0, 0, 25, 0);
        due("none to redo any more", x.redo(0), STUCK);
        due("to undo", x.clientOf(0, 4), 4);
        due("undo", x.undo(0), 3);
        reads("abc", 0);
        for (int k = 2; k >= 0; k--) due("undo", x.undo(0), k);
        due("none is left", x.undo(0), STUCK);
        reads("", 0);
        for (int k = 3; k >= 0; k--) due("redo", x.redo(0), k);
        due("none is left", x.redo(0), STUCK);
        reads("zabc", 0);
        due("bad", x.undo(4), BAD);
        due("bad", x.undo(-1), BAD);
        due("bad", x.redo(4), BAD);
        due("bad", x.redo(-1), BAD);
        x.meet();
        for (int c = 0; c < 5; c++) reads("zabc", c);
    }

    private static void undoOverOthers() {
        allHave("abc");
        x.cut(1, 0, 3);
        x.meet();
        x.insert(1, 0, 15, 0);
        x.meet();
        x.insert(0, 0, 16, 0);
        x.insert(2, 1, 17, 0);
        x.meet();
        reads("qpr", 4);
        due("undo of the letter", x.undo(1), 1);
        reads("qr", 1);
        due("undo of the cut", x.undo(1), 0);
        x.takes(0, 1, 3);
        reads("qrabc", 1);
        x.meet();
        for (int c = 0; c < 5; c++) reads("qrabc", c);
        allHave("abcd");
        x.mark(1, 0, 4, 0, 1);
        x.meet();
        x.cut(2, 1, 2);
        x.meet();
        x.undo(1);
        reads("ad", 1);
        allHave("ab");
        x.cut(1, 0, 2);
        x.undo(1);
        x.cut(2, 0, 1);
        x.meet();
        due("to redo", x.clientOf(1, 5), 1);
        due("redo", x.redo(1), 0);
        reads("", 1);
    }

    private static void redoOverOthers() {
        fresh();
        write(1, "ab");
        x.undo(1);
        x.undo(1);
        x.meet();
        write(2, "xy");
        x.meet();
        x.takes(0, 1, 3);
        spells("=2+a", 0);
        due("redo", x.redo(1), 1);
        due("redo", x.redo(1), 0);
        x.meet();
        reads("xyab", 4);
        due("undo", x.undo(1), 1);
        x.insert(3, 3, 25, 0);
        x.insert(3, 0, 24, 0);
        x.meet();
        reads("yxyaz", 4);
        due("undo", x.undo(1), 0);
        reads("yxyz", 1);
        due("redo", x.redo(1), 1);
        due("redo", x.redo(1), 0);
        x.meet();
        due("all alike", x.status(1), 4);
        due("length", x.length(4), 6);
    }

    private static void undoFull() {
        allHave(many("a", 40));
        x.cut(1, 0, 30);
        x.meet();
        for (int k = 0; k < 40; k++) x.insert(0, 0, 1, 0);
        x.meet();
        due("length", x.length(1), 50);
        due("80 letters", x.undo(1), FULL);
        due("still there", x.clientOf(1, 4), 1);
        due("status 16", x.status(16), 1);
        x.cut(2, 0, 20);
        x.meet();
        due("60 letters", x.undo(1), 0);
        due("length", x.length(1), 60);
        due("redo", x.redo(1), 0);
        due("undo", x.undo(1), 0);
        ed(0, "=60");
        due("redo has the same limit", redoFull(), FULL);
    }

    private static int redoFull() {
        allHave(many("a", 40));
        write(1, many("b", 1));
        ed(0, "=41+" + many("c", 19));
        x.does(1, 0);
        x.undo(1);
        x.meet();
        x.insert(2, 0, 3, 0);
        x.meet();
        return x.redo(1);
    }

    private static void undoKeepsTwenty() {
        fresh();
        for (int k = 0; k < 25; k++) {
            write(0, "a");
            due("to undo", x.clientOf(0, 4), Math.min(20, k + 1));
        }
        for (int k = 19; k >= 0; k--) due("undo", x.undo(0), k);
        due("the oldest are gone", x.undo(0), STUCK);
        reads("aaaaa", 0);
        due("to redo", x.clientOf(0, 5), 20);
        for (int k = 19; k >= 0; k--) due("redo", x.redo(0), k);
        due("length", x.length(0), 25);
    }

    private static void pointAndCursor() {
        fresh();
        due("point", x.point(0, 0, 0), 1);
        due("point", x.point(0, 1, 0), BAD);
        write(0, "abc");
        due("point", x.point(0, 3, 1), 1);
        due("cursor", x.cursor(0, 0), 3);
        due("cursor", x.cursor(0, 1), 1);
        due("point", x.point(0, 4, 0), BAD);
        due("point", x.point(0, 0, 4), BAD);
        due("point", x.point(0, -1, 0), BAD);
        due("point", x.point(0, 0, -1), BAD);
        due("point", x.point(4, 0, 0), BAD);
        due("point", x.point(-1, 0, 0), BAD);
        due("cursor is as it was", x.cursor(0, 0), 3);
        due("cursor", x.cursor(0, 2), BAD);
        due("cursor", x.cursor(0, -1), BAD);
        due("cursor", x.cursor(4, 0), BAD);
        due("cursor", x.cursor(-1, 0), BAD);
    }

    private static void cursorIs(int c, int place, int other) {
        due("cursor of " + c, x.cursor(c, 0), place);
        due("other cursor of " + c, x.cursor(c, 1), other);
    }

    private static void cursorGoesAlong() {
        fresh();
        write(0, "abcdef");
        cursorIs(0, 6, 6);
        x.meet();
        x.point(0, 2, 5);
        x.insert(0, 2, 0, 0);
        cursorIs(0, 3, 6);
        x.insert(0, 4, 0, 0);
        cursorIs(0, 3, 7);
        x.cut(0, 1, 4);
        cursorIs(0, 1, 3);
        x.undo(0);
        cursorIs(0, 5, 7);
        x.point(0, 3, 3);
        x.mark(0, 0, 5, 0, 1);
        cursorIs(0, 3, 3);
        allHave("abcd");
        x.point(1, 2, 4);
        x.insert(2, 2, 0, 0);
        x.meet();
        cursorIs(1, 2, 5);
        x.insert(2, 1, 0, 0);
        x.meet();
        cursorIs(1, 3, 6);
        x.cut(2, 2, 3);
        x.meet();
        cursorIs(1, 2, 3);
        ed(0, "=1+xy-1=1");
        x.point(1, 2, 1);
        x.does(2, 0);
        x.meet();
        cursorIs(1, 3, 1);
        ed(0, "=1+z-2=1");
        x.point(1, 2, 3);
        x.does(1, 0);
        cursorIs(1, 2, 2);
    }

    private static void clientOf() {
        fresh();
        write(0, "a");
        ed(0, "+b=1+c");
        x.does(0, 0);
        int[] due = {0, 1, 0, 3, 2, 0, 0};
        for (int w = 0; w < 7; w++) due("clientOf " + w, x.clientOf(0, w), due[w]);
        x.serve(0);
        x.undo(0);
        int[] then = {0, 1, 1, 1, 1, 1, 1};
        for (int w = 0; w < 7; w++) due("clientOf " + w, x.clientOf(0, w), then[w]);
        x.hear(0);
        int[] last = {1, 1, 0, 0, 1, 1, 0};
        for (int w = 0; w < 7; w++) due("clientOf " + w, x.clientOf(0, w), last[w]);
        due("to hear", x.clientOf(3, 6), 1);
        due("bad", x.clientOf(0, 7), BAD);
        due("bad", x.clientOf(0, -1), BAD);
        due("bad", x.clientOf(4, 0), BAD);
        due("bad", x.clientOf(-1, 0), BAD);
    }

    private static void takes() {
        fresh();
        for (int w = 0; w < 4; w++) due("none", x.takes(0, 0, w), STUCK);
        due("no edit came", x.status(2), 0);
        write(0, "ab");
        x.cut(0, 0, 1);
        x.undo(0);
        due("sent", x.takes(0, 0, 0), 1);
        spells("+a", 0);
        due("waits", x.takes(1, 0, 1), 2);
        spells("+ab-1", 1);
        due("undo", x.takes(2, 0, 2), 2);
        spells("=1-1", 2);
        due("redo", x.takes(3, 0, 3), 2);
        spells("-1=1", 3);
        write(1, "zz");
        x.serve(1);
        x.hear(0);
        due("as it is now", x.takes(4, 0, 0), 2);
        spells("=1+a", 4);
        spells("+a", 0);
        due("bad", x.takes(12, 0, 0), BAD);
        due("bad", x.takes(-1, 0, 0), BAD);
        due("bad", x.takes(0, 4, 0), BAD);
        due("bad", x.takes(0, -1, 0), BAD);
        due("bad", x.takes(0, 0, 4), BAD);
        due("bad", x.takes(0, 0, -1), BAD);
    }

    private static void revision() {
        fresh();
        due("none", x.revision(0, 1), BAD);
        write(3, "a");
        write(1, "b");
        x.serve(3);
        x.serve(1);
        due("revision", x.revision(0, 1), 3);
        spells("+a", 0);
        due("revision", x.revision(0, 2), 1);
        spells("=1+b", 0);
        due("bad", x.revision(0, 0), BAD);
        due("bad", x.revision(0, 3), BAD);
        due("bad", x.revision(0, -1), BAD);
        due("bad", x.revision(12, 1), BAD);
        due("bad", x.revision(-1, 1), BAD);
        spells("=1+b", 0);
    }

    private static void lengthAndText() {
        fresh();
        x.insert(2, 0, 25, 9);
        due("length", x.length(2), 1);
        due("length", x.length(4), 0);
        x.serve(2);
        due("length", x.length(4), 1);
        due("length", x.length(0), 0);
        due("text", x.text(2, 0, 0), 25);
        due("text", x.text(4, 0, 1), 9);
        due("length", x.length(5), BAD);
        due("length", x.length(-1), BAD);
        due("text", x.text(5, 0, 0), BAD);
        due("text", x.text(-1, 0, 0), BAD);
        due("text", x.text(2, 1, 0), BAD);
        due("text", x.text(2, -1, 0), BAD);
        due("text", x.text(0, 0, 0), BAD);
        due("text", x.text(2, 0, 2), BAD);
        due("text", x.text(2, 0, -1), BAD);
    }

    private static void apart() {
        fresh();
        write(0, "abc");
        write(1, "abd");
        write(2, "ab");
        x.insert(3, 0, 0, 1);
        due("apart", x.apart(0, 0), -1);
        due("apart", x.apart(0, 1), 2);
        due("one ends", x.apart(0, 2), 2);
        due("one ends", x.apart(2, 0), 2);
        due("marks", x.apart(0, 3), 0);
        due("empty", x.apart(4, 0), 0);
        due("apart", x.apart(4, 4), -1);
        due("none is not refused", x.status(12), 0);
        due("bad", x.apart(5, 0), BAD);
        due("bad", x.apart(0, 5), BAD);
        due("bad", x.apart(-1, 0), BAD);
        due("bad", x.apart(0, -1), BAD);
    }

    private static void marked() {
        fresh();
        x.insert(0, 0, 0, 1);
        x.insert(0, 0, 25, 8);
        x.insert(0, 0, 3, 9);
        x.insert(0, 0, 3, 0);
        x.insert(0, 0, 7, 0);
        due("marked", x.marked(0, 0), 1 | 1 << 3);
        due("marked", x.marked(0, 1), 0);
        due("marked", x.marked(0, 3), 1 << 25 | 1 << 3);
        due("with none", x.marked(0, 4), 1 << 3 | 1 << 7);
        due("empty", x.marked(4, 4), 0);
        x.meet();
        due("the server's", x.marked(4, 3), 1 << 25 | 1 << 3);
        due("bad", x.marked(0, 5), BAD);
        due("bad", x.marked(0, -1), BAD);
        due("bad", x.marked(5, 0), BAD);
        due("bad", x.marked(-1, 0), BAD);
    }

    private static void judge() {
        fresh();
        x.insert(0, 0, 5, 2);
        x.insert(0, 1, 6, 0);
        x.row(0, 0, 5);
        due("nothing told", x.judge(0, 0, 0), 0);
        due("nothing told of nothing", x.judge(4, 0, 0), -1);
        x.set(0, 0, 5);
        x.set(0, 1, 2);
        due("more than told", x.judge(0, 0, 1), 1);
        x.set(0, 2, 6);
        due("as told", x.judge(0, 0, 2), -1);
        x.set(0, 3, 1);
        due("other marks", x.judge(0, 0, 2), 1);
        x.set(0, 0, 4);
        due("another letter", x.judge(0, 0, 2), 0);
        due("fewer elements", x.judge(0, 0, 3), BAD);
        x.row(1, 3, 40);
        x.set(1, 0, 5);
        x.set(1, 1, 2);
        x.set(1, 2, 6);
        due("none where one is told", x.judge(0, 1, 20), 2);
        x.set(1, 2, 6 + (1L << 32));
        due("a long is told", x.judge(0, 1, 20), 1);
        due("none is not refused", x.status(12), 1);
        due("bad", x.judge(5, 0, 1), BAD);
        due("bad", x.judge(-1, 0, 1), BAD);
        due("bad", x.judge(0, 8, 1), BAD);
        due("bad", x.judge(0, -1, 1), BAD);
        due("bad", x.judge(0, 1, 21), BAD);
        due("bad", x.judge(0, 1, -1), BAD);
        due("nothing", x.judge(0, 2, 1), NOTHING);
        ed(0, "=1");
        x.show(2, 0, 0);
        due("a part", x.judge(0, 2, 1), OTHER);
        x.row(3, 4, 2);
        x.set(3, 0, 77);
        x.insert(1, 0, 1, 0);
        due("booleans tell 1 and 0", x.judge(1, 3, 1), -1);
    }

    /** A second telling of the draws, so that days can be followed call by call. */
    private static int drawn = 1;

    private static int draw(int n) {
        drawn = drawn * 1103515245 + 12345;
        return (drawn >>> 16) % n;
    }

    private static void days() {
        fresh();
        due("bad", x.days(0), BAD);
        due("bad", x.days(61), BAD);
        due("bad", x.days(-1), BAD);
        EditsMeet days = x;
        fresh();
        drawn = 1;
        int busy = 0;
        for (int d = 0; d < 180; d++) {
            int c = draw(4);
            int what = draw(8);
            boolean isBusy = true;
            if (what <= 2) {
                int letter = draw(26);
                x.insert(c, draw(x.length(c) + 1), letter, 0);
            } else if (what <= 4) {
                isBusy = x.length(c) > 0;
                int place = isBusy ? draw(x.length(c)) : 0;
                if (what == 3) x.cut(c, place, 1);
                else if (isBusy) x.mark(c, place, 1, draw(4), 1);
            } else if (what == 5) {
                isBusy = x.undo(c) >= 0;
            } else if (what == 6) {
                isBusy = x.serve(c) >= 0;
            } else {
                isBusy = x.hear(c) >= 0;
            }
            if (isBusy) busy++;
            if (d % 60 == 59) {
                due("days", days.days(60), busy);
                busy = 0;
            }
        }
        due("seed", days.status(6), drawn);
        for (int c = 0; c < 5; c++) {
            String after = tx(c);
            EditsMeet called = x;
            x = days;
            reads(after, c);
            x = called;
        }
        due("no refusals", days.status(15), 0);
        due("bad ones alone", days.status(12), 3);
        for (int c = 0; c < 4; c++) sameEdits(days, c);
    }

    /** What a client sent, what waits, is to undo and to redo: the same in both, part by part. */
    private static void sameEdits(EditsMeet days, int c) {
        for (int w = 0; w < 4; w++) {
            int parts = x.takes(0, c, w);
            due("takes", days.takes(0, c, w), parts);
            for (int i = 0; i < parts; i++) {
                for (int p = 0; p < 4; p++) due("part", days.part(0, i, p), x.part(0, i, p));
            }
        }
    }

    private static void daysWhereNothingCanBe() {
        // The seed is set so that the first draws pick a deed; nothing more is drawn where it can't be.
        for (int seed = 0; seed < 400; seed++) {
            fresh();
            x.seed(seed);
            drawn = seed;
            int c = draw(4);
            int what = draw(8);
            due("one day", x.days(1), what <= 2 ? 1 : 0);
            if (what <= 2) draw(26);
            if (what <= 2) draw(1);
            due("seed", x.status(6), drawn);
            due("length", x.length(c), what <= 2 ? 1 : 0);
            for (int r = 12; r <= 16; r++) due("status", x.status(r), 0);
        }
        fresh();
        for (int c = 0; c < 4; c++) write(c, many("a", 60));
        for (int seed = 0; seed < 100; seed++) {
            x.seed(seed);
            drawn = seed;
            draw(4);
            if (draw(8) > 2) continue;
            due("no longer than 60", x.days(1), 0);
            due("seed", x.status(6), drawn);
        }
    }

    private static void seed() {
        fresh();
        due("seed", x.seed(LEAST), 1);
        due("seed", x.seed(-5), LEAST);
        due("status 6", x.status(6), -5);
        due("seed", x.seed(1), -5);
        x.days(1);
        Check.that("days draw", x.status(6) != 1);
    }

    private static void imageAndBack() {
        fresh();
        due("nothing was kept", x.back(), STUCK);
        due("image", x.image(), 1);
        write(0, "abc");
        x.undo(0);
        x.serve(0);
        x.hear(1);
        x.point(0, 1, 2);
        x.seed(99);
        ed(3, "=5");
        x.row(2, 1, 4);
        due("image", x.image(), 1);
        x.meet();
        x.redo(0);
        write(1, "xyz");
        x.meet();
        x.seed(7);
        ed(3, "=6");
        x.feed(61);
        x.row(4, 0, 1);
        x.set(2, 0, 5);
        x.length(9);
        due("back", x.back(), 1);
        reads("ab", 0);
        reads("a", 1);
        reads("", 2);
        reads("a", 4);
        due("revisions", x.status(0), 1);
        due("to undo", x.clientOf(0, 4), 2);
        due("to redo", x.clientOf(0, 5), 1);
        due("sent and served", x.clientOf(0, 2), 1);
        x.takes(0, 0, 0);
        spells("+a", 0);
        x.takes(0, 0, 1);
        spells("=1+b", 0);
        cursorIs(0, 1, 2);
        due("seed", x.status(6), 99);
        due("edits stay", x.part(3, 0, 1), 6);
        due("the tape stays", x.status(5), 1);
        due("shelves stay", x.status(7), 2);
        due("element", x.element(2, 0), 5);
        due("refusals stay", x.status(12), 1);
        due("refusals stay", x.status(15), 1);
        write(2, "q");
        x.meet();
        due("back again", x.back(), 1);
        reads("", 2);
        due("redo", x.redo(0), 0);
        reads("abc", 0);
        due("meet", x.meet(), 2);
        reads("abc", 4);
        x.revision(0, 2);
        spells("=1+bc", 0);
    }

    private static void status() {
        fresh();
        due("status 1", x.status(1), 4);
        write(0, "ab");
        write(1, "c");
        due("status 0", x.status(0), 0);
        due("status 1", x.status(1), 2);
        due("status 3", x.status(3), 3);
        due("status 4", x.status(4), 2);
        x.serve(0);
        due("status 0", x.status(0), 1);
        due("status 1", x.status(1), 0);
        due("status 3", x.status(3), 4);
        due("status 4", x.status(4), 2);
        ed(0, "=1");
        ed(11, "=1");
        due("status 2", x.status(2), 2);
        x.feed(1);
        due("status 5", x.status(5), 1);
        due("status 6", x.status(6), 1);
        x.row(0, 0, 0);
        x.show(1, 0, 0);
        x.show(2, -1, 0);
        due("status 7", x.status(7), 2);
        x.show(1, -1, 0);
        due("status 7", x.status(7), 1);
        x.length(7);
        x.says(0, 0);
        x.says(0, 0);
        for (int k = 0; k < 3; k++) x.says(5, 0);
        for (int k = 0; k < 4; k++) x.hear(0);
        due("status 12", x.status(12), 1);
        due("status 13", x.status(13), 2);
        due("status 14", x.status(14), 3);
        due("status 15", x.status(15), 3);
        due("status 16", x.status(16), 0);
        int[] others = {-1, 8, 9, 10, 11, 17, LEAST, MOST};
        for (int w : others) due("status " + w, x.status(w), -1);
        due("none is not refused", x.status(12), 1);
    }

    private static void editsThatChangeNothing() {
        fresh();
        ed(0, "+a");
        ed(1, "-1");
        x.behind(2, 0, 1);
        due("does an edit without parts", x.does(0, 2), 0);
        due("it is sent", x.status(4), 1);
        due("it has no parts", x.clientOf(0, 1), 0);
        due("takes", x.takes(3, 0, 0), 0);
        due("it waits for serve", x.serve(0), 1);
        due("to undo", x.clientOf(0, 4), 1);
        due("undo", x.undo(0), 0);
        due("redo", x.redo(0), 0);
        due("meet", x.meet(), 2);
        allHave("ab");
        x.cut(1, 0, 1);
        x.cut(2, 0, 1);
        x.meet();
        due("meet serves both", x.status(0), 4);
        x.revision(0, 4);
        spells("=1", 0);
        reads("b", 4);
        allHave("ab");
        x.insert(1, 2, 2, 0);
        x.meet();
        x.cut(2, 2, 1);
        x.meet();
        due("it stays to undo", x.clientOf(1, 4), 1);
        x.takes(0, 1, 2);
        spells("=2", 0);
        due("undo", x.undo(1), 0);
        reads("ab", 1);
        due("to redo", x.clientOf(1, 5), 1);
    }
}

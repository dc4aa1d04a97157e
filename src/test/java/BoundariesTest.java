/**
 * Sentence by sentence: what is at the edge of what the document tells, its own words told with each
 * test. What is refused there, and in which order, stands in RefusalsTest.
 */
public final class BoundariesTest {
    private static final int BAD = -2, NOTHING = -4, STUCK = -5, FULL = -6;
    private static final int LEAST = Integer.MIN_VALUE, MOST = Integer.MAX_VALUE;

    private static EditsMeet x;

    public static void main(String[] args) {
        fiveHundredAndTwelveCalls();
        lettersAndMarks();
        nothingCouldBeLeftOut();
        insertsAndDeletesNextToOneAnother();
        marksNextToOneAnother();
        behindWhatIsNotInIt();
        turnedBitsThatWereNotOtherwise();
        bothInsertAtOnePlace();
        whatBDeletesOrTurns();
        everyByteAtEveryPlace();
        numbersOnTheTape();
        theTapeEndsTooEarly();
        theTapeIsFull();
        spelledNumbers();
        ninetyRevisions();
        twentyToUndo();
        sentAndWaiting();
        editsThatBecomeNothingStay();
        servedAsItWasWhenItWasSent();
        placesGoAlong();
        meetingOfNobody();
        daysAtTheEdge();
        drawsWrapAround();
        rowsKeepTheirLowestBits();
        rowsOfNoneAndOfForty();
        copiesAtTheEdge();
        partsAsTheyWere();
        lengthsThatFit();
        textsThatEnd();
        toldTexts();
        countsOfRefusals();
        whatAnImageKeeps();
        Check.end();
    }

    private static void fresh() {
        x = new EditsMeet();
    }

    private static void due(String sentence, long got, long want) {
        Check.due(sentence, got, want);
    }

    private static int ed(int n, String spelled) {
        for (int i = 0; i < spelled.length(); i++) x.feed(spelled.charAt(i));
        return x.edit(n);
    }

    private static String sp(int n) {
        StringBuilder s = new StringBuilder();
        for (int i = 0; x.spelled(n, i) >= 0; i++) s.append((char) x.spelled(n, i));
        return s.toString();
    }

    private static void spells(String sentence, int n, String spelled) {
        Check.same(sentence, sp(n), spelled);
    }

    private static void reads(String sentence, int c, String text) {
        StringBuilder s = new StringBuilder();
        for (int i = 0; i < x.length(c); i++) {
            s.append((char) ('a' + x.text(c, i, 0)));
            if (x.text(c, i, 1) != 0) s.append(x.text(c, i, 1));
        }
        Check.same(sentence, s.toString(), text);
    }

    private static String many(String s, int n) {
        StringBuilder all = new StringBuilder();
        for (int i = 0; i < n; i++) all.append(s);
        return all.toString();
    }

    private static void write(int c, String letters) {
        ed(11, (x.length(c) > 0 ? "=" + x.length(c) : "") + "+" + letters);
        x.does(c, 11);
    }

    private static void allHave(String letters) {
        fresh();
        write(0, letters);
        x.meet();
    }

    // ---------------------------------------------------------------- what it is; terms 1

    private static void fiveHundredAndTwelveCalls() {
        fresh();
        for (int call = 1; call <= 511; call++) {
            if (call % 2 == 1) x.insert(0, 0, 3, 0);
            else x.cut(0, 0, 1);
        }
        due("for at most 512 calls", x.cut(0, 0, 1), 0);
    }

    private static void lettersAndMarks() {
        fresh();
        String sentence = "LETTERS (a .. z), each with MARKS (bits 0 to 3); PLACES counted from 0";
        x.insert(0, 0, 0, 0);
        x.insert(0, 1, 25, 15);
        reads(sentence, 0, "az15");
        due(sentence, x.text(0, 0, 0), 0);
        due(sentence, x.text(0, 1, 0), 25);
        due(sentence, x.text(0, 1, 1), 15);
        for (int bit = 0; bit <= 3; bit++) due(sentence, x.mark(0, 0, 1, bit, 1), 1);
        due(sentence, x.text(0, 0, 1), 15);
        for (int bit = 3; bit >= 0; bit--) {
            due(sentence, x.mark(0, 0, 2, bit, 0), 2);
            due(sentence, x.text(0, 0, 1), (1 << bit) - 1);
        }
    }

    private static void nothingCouldBeLeftOut() {
        String sentence = "PLAIN is an EDIT, if no PART could be left out";
        fresh();
        x.insert(0, 0, 0, 0);
        x.takes(0, 0, 0);
        spells(sentence, 0, "+a");
        x.insert(0, 0, 1, 0);
        x.takes(0, 0, 1);
        spells(sentence, 0, "+b=1");
        x.takes(0, 0, 2);
        spells(sentence, 0, "-1=1");
        x.cut(0, 1, 1);
        x.takes(0, 0, 2);
        spells(sentence, 0, "=1+a");
        x.cut(0, 0, 1);
        x.takes(0, 0, 2);
        spells(sentence, 0, "+b");
        ed(1, "+abc");
        ed(2, "-3");
        due("(What a inserts and b deletes is not in it", x.behind(3, 1, 2), 0);
        due(sentence, x.of(3, 1) + x.of(3, 2), 0);
        due(sentence, x.spelled(3, 0), EditsMeet.NONE);
        ed(1, "=1-2=1");
        ed(2, "=1-2=1");
        due("what b deletes it does nothing with", x.over(3, 1, 2, 0), 1);
        spells(sentence, 3, "=2");
    }

    private static void insertsAndDeletesNextToOneAnother() {
        String sentence = "an INSERT behind a DELETE goes ahead of it";
        fresh();
        String[][] plain = {{"-1+a", "+a-1"}, {"+a-1", "+a-1"}, {"+a-1+b", "+ab-1"}, {"-1+a-1", "+a-2"},
            {"-1+a-2+b-3+c", "+abc-6"}, {"=1-1+a=1", "=1+a-1=1"}, {"-1=1+a", "-1=1+a"}, {"^1.1-1+a", "^1.1+a-1"},
            {"+a+b+c", "+abc"}, {"=1=99", "=100"}, {"-99-1", "-100"}, {"+a-1+b-1+c-1=1", "+abc-3=1"}};
        for (String[] p : plain) {
            ed(0, p[0]);
            spells(sentence + ": " + p[0], 0, p[1]);
        }
        ed(0, "=1-1=1");
        ed(1, "=1+a=1");
        x.behind(2, 0, 1);
        spells(sentence, 2, "=1+a-1=1");
        ed(0, "=1+a=1");
        ed(1, "-1=2");
        x.behind(2, 0, 1);
        spells(sentence, 2, "+a-1=1");
        allHave("abc");
        ed(0, "+x-1=2");
        x.turned(1, 0, 0);
        spells(sentence, 1, "+a-1=2");
        ed(0, "=2+a");
        ed(1, "-2");
        x.over(2, 0, 1, 0);
        spells(sentence, 2, "+a");
    }

    private static void marksNextToOneAnother() {
        fresh();
        String sentence = "two MARKS with the same ON and OFF";
        String[][] plain = {{"^1.1^1.1", "^2.1"}, {"_1.1_98.1", "_99.1"}, {"^1.1_1.1", "^1.1_1.1"}, {"^1.1^1.2", "^1.1^1.2"},
            {"^1.15=1^1.15", "^1.15=1^1.15"}, {"=1^1.1=1", "=1^1.1=1"}, {"^1.1-1^1.1", "^1.1-1^1.1"}, {"^1.1+a^1.1", "^1.1+a^1.1"}};
        for (String[] p : plain) {
            ed(0, p[0]);
            spells(sentence + ": " + p[0], 0, p[1]);
        }
        ed(0, "^2.1");
        ed(1, "_1.2=1");
        x.behind(2, 0, 1);
        spells("MARKS of unlike ON, OFF stay two PARTS", 2, "^1.1_2^1.1");
        due("each of its own LETTERS", x.part(2, 0, 1), 1);
        ed(0, "^1.1=1");
        ed(1, "=1^1.1");
        x.behind(2, 0, 1);
        spells(sentence, 2, "^2.1");
        ed(1, "-1=1");
        ed(0, "^1.1^1.3");
        x.over(2, 0, 1, 1);
        spells(sentence, 2, "^1.3");
        ed(0, "^1.3=1");
        ed(1, "^2.3");
        x.over(2, 0, 1, 1);
        spells("MARK .. one of them at least has one", 2, "=2");
        x.over(2, 0, 1, 0);
        spells("else they do", 2, "^1.3=1");
    }

    private static void behindWhatIsNotInIt() {
        fresh();
        int[][] on = {{0, 0}, {1, 1}, {2, 2}};
        String[] say = {"=1", "^1.1", "_1.1"};
        String[] due = {"=1", "^1.1", "_1.1", "^1.1", "^1.1", "_1.1", "_1.1", "^1.1", "_1.1"};
        for (int a = 0; a < on.length; a++) {
            for (int b = 0; b < on.length; b++) {
                ed(0, say[a]);
                ed(1, say[b]);
                x.behind(2, 0, 1);
                spells("ON: a's but for b's OFF, and b's: " + say[a] + say[b], 2, due[3 * a + b]);
            }
        }
        ed(0, "+a");
        ed(1, "^1.15");
        x.behind(2, 0, 1);
        due("b's MARKS come to LETTERS that a inserts", x.letter(2, 0, 0), 1500);
        spells("they aren't told", 2, "+a");
        ed(1, "_1.5");
        x.behind(2, 2, 1);
        due("OFF, too", x.letter(2, 0, 0), 1000);
        due("where nothing was on", x.behind(2, 2, 1), 1);
        due("nothing changes", x.letter(2, 0, 0), 1000);
    }

    private static void turnedBitsThatWereNotOtherwise() {
        String sentence = "(of bits that weren't otherwise: nothing)";
        fresh();
        x.insert(0, 0, 0, 5);
        String[][] turned = {{"^1.15", "_1.10"}, {"_1.15", "^1.5"}, {"^1.5", "=1"}, {"_1.10", "=1"}, {"^1.1", "=1"}, {"^1.2", "_1.2"},
            {"_1.8", "=1"}, {"_1.4", "^1.4"}, {"=1", "=1"}, {"-1", "+a"}, {"+b=1", "-1=1"}, {"+b-1", "+a-1"}, {"=1+b", "=1-1"}};
        for (String[] t : turned) {
            ed(0, t[0]);
            x.turned(1, 0, 0);
            spells(sentence + " " + t[0], 1, t[1]);
        }
        ed(0, "-1");
        x.turned(1, 0, 0);
        due("INSERT of the LETTERS with MARKS", x.letter(1, 0, 0), 500);
        ed(0, "^1.15");
        ed(1, "_1.4");
        x.behind(2, 0, 1);
        x.turned(3, 2, 0);
        spells("ON and OFF", 3, "^1.4_10");
    }

    private static void bothInsertAtOnePlace() {
        fresh();
        String[][] over = {
            // a, b, first 0, first 1
            {"+a", "+b", "=1+a", "+a=1"},
            {"+a=1", "+b=1", "=1+a=1", "+a=2"},
            {"=1+a", "=1+b", "=2+a", "=1+a=1"},
            {"+a=1", "=1+b", "+a=2", "+a=2"},
            {"=1+a", "+b=1", "=2+a", "=2+a"},
            {"+a-1", "+b-1", "=1+a", "+a=1"},
            {"-1+a", "+b=1", "=1+a-1", "+a=1-1"},
            {"+a=1", "-1+b", "=1+a", "+a=1"},
            {"+a-2=1", "-1+b-1=1", "=1+a=1", "+a=2"},
            {"=1+a-1", "=1-1+b", "=2+a", "=1+a=1"},
        };
        for (String[] o : over) {
            ed(0, o[0]);
            ed(1, o[1]);
            x.over(2, 0, 1, 0);
            spells("else behind them: " + o[0] + " over " + o[1], 2, o[2]);
            x.over(2, 0, 1, 1);
            spells("ahead of b's if first is 1: " + o[0] + " over " + o[1], 2, o[3]);
        }
    }

    private static void whatBDeletesOrTurns() {
        fresh();
        String[][] over = {
            {"-3", "-3", "", ""},
            {"-3", "=1-1=1", "-2", "-2"},
            {"=3", "-3", "", ""},
            {"^3.1", "-1=1-1", "^1.1", "^1.1"},
            {"^3.7", "=1^1.1_1.4", "^3.7", "^1.7^1.6^1.3"},
            {"_3.15", "^1.15_1.15=1", "_3.15", "=2_1.15"},
            {"-1=2", "^3.1", "-1=2", "-1=2"},
            {"^1.1=2", "=1^2.1", "^1.1=2", "^1.1=2"},
            {"+a=3", "^3.1", "+a=3", "+a=3"},
        };
        for (String[] o : over) {
            ed(0, o[0]);
            ed(1, o[1]);
            for (int first = 0; first <= 1; first++) {
                x.over(2, 0, 1, first);
                spells("OVER (a, b, " + first + "): " + o[0] + ", " + o[1], 2, o[2 + first]);
                due("FROM is TO of b", x.of(2, 1), x.of(1, 2));
            }
        }
    }

    // ---------------------------------------------------------------- the tape

    /** -1: the edit is read; else the fault. */
    private static void faultIs(String tape, int fault) {
        int got = ed(0, tape);
        due("The FAULT of " + tape, got, fault < 0 ? Math.max(got, 0) : -300 - fault);
        due("THE TAPE is empty then, in any case", x.status(5), 0);
    }

    private static void everyByteAtEveryPlace() {
        for (int b = 0; b <= 255; b++) {
            fresh();
            char c = (char) b;
            boolean isSign = "=-+^_".indexOf(c) >= 0;
            boolean isDigit = c >= '0' && c <= '9';
            boolean isLetter = c >= 'a' && c <= 'z';
            faultIs("" + c, isSign ? 1 : 0);
            for (String sign : new String[] {"=", "-"}) {
                faultIs(sign + c, isDigit && c != '0' ? -1 : 1);
                faultIs(sign + "1" + c, isDigit ? -1 : isSign ? 3 : 2);
                faultIs(sign + "12" + c, isSign ? 4 : 3);
            }
            faultIs("+" + c, isLetter ? -1 : 1);
            faultIs("+a" + c, isLetter ? -1 : isSign ? 3 : 2);
            for (String sign : new String[] {"^", "_"}) {
                faultIs(sign + c, c == '0' ? 1 : isDigit ? 2 : 1);
                faultIs(sign + "1" + c, isDigit || c == '.' ? 3 : 2);
                faultIs(sign + "12" + c, c == '.' ? 4 : 3);
                faultIs(sign + "1." + c, isDigit && c != '0' ? -1 : 3);
                faultIs(sign + "1.1" + c, isDigit ? c <= '5' ? -1 : 3 : isSign ? 5 : 4);
                faultIs(sign + "1.15" + c, isSign ? 6 : 5);
            }
        }
    }

    private static void numbersOnTheTape() {
        fresh();
        for (int n = 0; n <= 99; n++) {
            String two = (n < 10 ? "0" : "") + n;
            faultIs("=" + two, n == 0 ? 1 : -1);
            faultIs("-" + two, n == 0 ? 1 : -1);
            faultIs("^" + two + ".1", n == 0 ? 1 : -1);
            faultIs("_" + two + ".1", n == 0 ? 1 : -1);
            faultIs("^1." + two, n == 0 || n > 15 ? 3 : -1);
            faultIs("_1." + two, n == 0 || n > 15 ? 3 : -1);
            if (n > 0) {
                ed(1, "=" + two);
                due("N 1 to 99", x.part(1, 0, 1), n);
            }
            if (n > 0 && n <= 15) {
                ed(1, "^1." + n);
                due("M 1 to 15", x.part(1, 0, 2), n);
                ed(1, "_1." + n);
                due("M 1 to 15", x.part(1, 0, 3), n);
            }
        }
        String third = "The third digit of a number is a FAULT";
        due(third, ed(0, "=100"), -303);
        due(third, ed(0, "=010"), -303);
        due(third, ed(0, "=1=999"), -305);
        due(third, ed(0, "^111.1"), -303);
        due(third, ed(0, "^1.011"), -305);
        due(third, ed(0, "^1.150"), -305);
        due("of two noughts the first one is", ed(0, "=00"), -301);
        due("of two noughts the first one is", ed(0, "^1.00"), -303);
        due("(of a number that may not be its first digit)", ed(0, "^1.16"), -303);
        due("(of a number that may not be its first digit)", ed(0, "=0"), -301);
        due("(of a number that may not be its first digit)", ed(0, "^1.99"), -303);
        due("zeros ahead may stand", ed(0, "=01-09^05.08_01.01"), 4);
    }

    private static void theTapeEndsTooEarly() {
        fresh();
        String sentence = "THE TAPE's size, if it ends too early";
        String[] tapes = {"", "=", "-", "+", "^", "_", "^1", "^11", "^1.", "^11.", "_2", "_22.", "=1=", "+ab+", "=1^1", "-9_9."};
        for (String tape : tapes) due(sentence + ": " + tape, ed(0, tape), -300 - tape.length());
        due("refused, too: BAD", x.status(12), tapes.length);
        due("no EDIT came", x.status(2), 0);
        String longest = many("=1", 124) + "=";
        due(sentence, ed(0, longest), -300 - 249);
        due(sentence, ed(0, many("=1", 124) + "=" + "1"), 1);
        due(sentence, ed(0, many("^1.1", 62) + "^1"), -300 - 250);
        due("of an EDIT ahead nothing is lost", x.of(0, 1), 125);
    }

    private static void theTapeIsFull() {
        fresh();
        String sentence = "THE TAPE (bytes, 250 at most)";
        due("its size ahead", x.wipe(), 0);
        for (int n = 1; n <= 250; n++) due(sentence, x.feed(n % 2 == 1 ? '=' : '1'), n);
        due(sentence, x.feed('='), FULL);
        due(sentence, x.status(5), 250);
        due("PARTS (made PLAIN)", x.edit(0), 1);
        due(sentence, x.of(0, 1), 125);
        for (int n = 1; n <= 250; n++) x.feed(n == 1 ? '+' : 'z');
        due("LETTERS, one or more", x.edit(0), 1);
        due("LETTERS, one or more", x.of(0, 3), 249);
        for (int n = 1; n <= 250; n++) x.feed(255);
        due("its size ahead", x.wipe(), 250);
        due("THE TAPE is empty", x.status(5), 0);
        due("its size", x.feed(0), 1);
    }

    private static void spelledNumbers() {
        fresh();
        ed(0, "=99=1");
        spells("SPELLED is an EDIT likewise", 0, "=100");
        ed(0, "=10-10^10.10_10.10");
        spells("SPELLED is an EDIT likewise", 0, "=10-10^10.10_10.10");
        due("NONE: none such", x.spelled(0, 18), EditsMeet.NONE);
        due("the last one", x.spelled(0, 17), '0');
        due("NONE: none such", x.spelled(0, -1), EditsMeet.NONE);
        due("NONE: none such", x.spelled(0, LEAST), EditsMeet.NONE);
        due("NONE: none such", x.spelled(0, MOST), EditsMeet.NONE);
        due("(NONE isn't refused.)", x.status(12), 0);
        ed(1, "^1.15");
        ed(2, "_1.7");
        x.behind(0, 1, 2);
        spells("a MARK with ON and OFF: ^N.M_M", 0, "^1.8_7");
        due("0 of others", x.part(0, 0, 0), 5);
        ed(0, "+a-1=1");
        for (int i = 0; i < 3; i++) due("ON (2), OFF (3; 0 of others)", x.part(0, i, 2) + x.part(0, i, 3), 0);
        x.insert(0, 0, 3, 15);
        x.takes(3, 0, 2);
        for (int w = 2; w <= 3; w++) due("ON (2), OFF (3; 0 of others)", x.part(3, 0, w), 0);
        x.cut(0, 0, 1);
        x.takes(4, 0, 2);
        for (int w = 2; w <= 3; w++) due("ON (2), OFF (3; 0 of others)", x.part(4, 0, w), 0);
        fresh();
        write(1, "ab");
        x.meet();
        x.seed(seedFor(new int[] {4, 8}, new int[] {1, 3}));
        due("3: .. 1 LETTER is deleted", x.days(1), 1);
        x.takes(5, 1, 0);
        for (int i = 0; i < 2; i++) due("ON (2), OFF (3; 0 of others)", x.part(5, i, 2) + x.part(5, i, 3), 0);
    }

    // ---------------------------------------------------------------- terms 2

    private static void ninetyRevisions() {
        fresh();
        String sentence = "REVISIONS, 1 on (0 at first; 90 at most)";
        due(sentence, x.status(0), 0);
        due(sentence, x.revision(0, 0), BAD);
        due(sentence, x.revision(0, 1), BAD);
        write(0, "ab");
        for (int n = 1; n <= 90; n++) {
            due(sentence, x.serve(0), n);
            due("the REVISION behind its own", x.hear(0), n);
            due(sentence, x.hear(0), STUCK);
            x.mark(0, 0, 1, n % 4, n / 4 % 2);
        }
        due(sentence, x.serve(0), FULL);
        due(sentence, x.revision(0, 90), 0);
        due(sentence, x.revision(0, 91), BAD);
        due("how many REVISIONS it has to HEAR", x.clientOf(1, 6), 90);
        due("If a REVISION would be the 91st: it ends there, as it is", x.meet(), FULL);
        due("as it is", x.clientOf(1, 6), 90);
        x.seed(seedFor(new int[] {4, 8}, new int[] {0, 6}));
        due("6: it is SERVED, if serve() wouldn't be refused", x.days(1), 0);
        due("90 at most", x.status(0), 90);
        for (int n = x.clientOf(1, 0) + 1; n <= 90; n++) due("hear", x.hear(1), n);
        due("hear", x.hear(1), STUCK);
    }

    private static void twentyToUndo() {
        fresh();
        String sentence = "(20 of each at most; then the oldest goes)";
        for (int n = 1; n <= 20; n++) {
            x.insert(0, n - 1, n, 0);
            due(sentence, x.clientOf(0, 4), n);
        }
        x.insert(0, 20, 21, 0);
        due(sentence, x.clientOf(0, 4), 20);
        for (int n = 19; n >= 0; n--) {
            due("how many are left to UNDO", x.undo(0), n);
            due("put on those to REDO", x.clientOf(0, 5), 20 - n);
        }
        due(sentence, x.undo(0), STUCK);
        reads(sentence, 0, "b");
        for (int n = 19; n >= 0; n--) due("how many are left to REDO", x.redo(0), n);
        due(sentence, x.redo(0), STUCK);
        due("the other way about", x.clientOf(0, 4), 20);
        x.undo(0);
        x.mark(0, 0, 1, 0, 1);
        due("there are none to REDO any more", x.clientOf(0, 5), 0);
        due(sentence, x.clientOf(0, 4), 20);
        x.undo(0);
        x.undo(0);
        x.undo(0);
        due("nothing else changes there", x.clientOf(0, 4) + 100 * x.clientOf(0, 5), 317);
    }

    private static void sentAndWaiting() {
        fresh();
        write(0, "a");
        due("Nothing SENT: it is SENT", x.clientOf(0, 1), 1);
        due("nothing WAITS", x.clientOf(0, 3), 0);
        due("nothing WAITS", x.takes(0, 0, 1), STUCK);
        write(0, "b");
        write(0, "c");
        x.takes(0, 0, 1);
        spells("else it WAITS, behind what WAITS already", 0, "=1+bc");
        x.serve(0);
        due("whether that was SERVED", x.clientOf(0, 2), 1);
        x.hear(0);
        x.takes(0, 0, 0);
        spells("if something WAITS, that is SENT now", 0, "=1+bc");
        due("and nothing WAITS", x.clientOf(0, 3), 0);
        due("not SERVED", x.clientOf(0, 2), 0);
        x.serve(0);
        x.hear(0);
        due("nothing is SENT any more", x.clientOf(0, 1), 0);
        due("nothing is SENT any more", x.serve(0), STUCK);
        due("nothing is SENT any more", x.status(4), 0);
        x.mark(0, 0, 1, 0, 0);
        due("An EDIT that changes nothing is .. SENT", x.clientOf(0, 1), 2);
        due("and kept to UNDO all the same", x.clientOf(0, 4), 4);
        due("DONE", x.serve(0), 3);
    }

    private static void editsThatBecomeNothingStay() {
        String sentence = "EDITS to UNDO or to REDO that become such stay";
        allHave("abc");
        x.insert(1, 3, 25, 0);
        x.cut(1, 0, 1);
        x.undo(1);
        x.meet();
        x.cut(2, 0, 1);
        x.cut(3, 3, 1);
        x.meet();
        reads(sentence, 1, "bc");
        due(sentence, x.takes(0, 1, 2), 1);
        spells(sentence, 0, "=2");
        due(sentence, x.takes(0, 1, 3), 1);
        spells(sentence, 0, "=2");
        due(sentence, x.clientOf(1, 4) + 10 * x.clientOf(1, 5), 11);
        due("to REDO", x.redo(1), 0);
        due("to UNDO", x.undo(1), 1);
        due("to UNDO", x.undo(1), 0);
        reads("An EDIT that changes nothing is DONE", 1, "bc");
        int revisions = x.status(0);
        due("SENT", x.meet(), revisions + 2);
        allHave("ab");
        x.cut(1, 0, 2);
        x.undo(1);
        x.cut(0, 0, 2);
        x.meet();
        reads("what is inserted again stays", 4, "ab");
        due("no PARTS are told of what goes over nothing", x.clientOf(0, 4), 2);
    }

    private static void servedAsItWasWhenItWasSent() {
        allHave("abcd");
        x.insert(0, 2, 25, 0);
        x.cut(1, 1, 2);
        x.insert(2, 0, 24, 0);
        x.serve(1);
        x.serve(2);
        x.hear(0);
        x.takes(0, 0, 0);
        spells("taken OVER it likewise (first 0)", 0, "=1+z=1");
        x.serve(0);
        x.revision(0, 4);
        spells("taken OVER each REVISION behind the one it was sent for", 0, "=2+z=1");
        reads("the SERVER's TEXT becomes what it makes", 4, "yazd");
        x.meet();
        for (int c = 0; c < 4; c++) reads("till all is SERVED and HEARD", c, "yazd");
        allHave("ab");
        x.mark(0, 0, 2, 0, 1);
        x.mark(1, 0, 1, 0, 0);
        x.serve(0);
        x.serve(1);
        reads("(first 0): the later one turns it", 4, "ab1");
        x.hear(0);
        x.hear(0);
        reads("HEARD by another", 0, "ab1");
        x.hear(1);
        reads("(first 1): not what is SENT turned", 1, "ab1");
    }

    /** A place in a text of 4 letters goes along with an edit: by its own, then by another's. */
    private static void placesGoAlong() {
        String[] edits = {"+xy=4", "=2+xy=2", "=4+xy", "-1=3", "=1-2=1", "=3-1", "-4", "=1+x-2=1", "^4.1", "=1-1=1-1", "+x-4+y"};
        int[][] own = {{2, 3, 4, 5, 6}, {0, 1, 4, 5, 6}, {0, 1, 2, 3, 6}, {0, 0, 1, 2, 3}, {0, 1, 1, 1, 2}, {0, 1, 2, 3, 3},
            {0, 0, 0, 0, 0}, {0, 2, 2, 2, 3}, {0, 1, 2, 3, 4}, {0, 1, 1, 2, 2}, {2, 2, 2, 2, 2}};
        int[][] others = {{0, 3, 4, 5, 6}, {0, 1, 2, 5, 6}, {0, 1, 2, 3, 4}, {0, 0, 1, 2, 3}, {0, 1, 1, 1, 2}, {0, 1, 2, 3, 3},
            {0, 0, 0, 0, 0}, {0, 1, 2, 2, 3}, {0, 1, 2, 3, 4}, {0, 1, 1, 2, 2}, {0, 2, 2, 2, 2}};
        for (int e = 0; e < edits.length; e++) {
            for (int place = 0; place <= 4; place++) {
                allHave("abcd");
                x.point(0, place, 4 - place);
                x.point(1, place, 4 - place);
                ed(0, edits[e]);
                x.does(0, 0);
                due("at it, if it is the CLIENT's own: " + edits[e] + " " + place, x.cursor(0, 0), own[e][place]);
                due("at it, if it is the CLIENT's own: " + edits[e] + " " + place, x.cursor(0, 1), own[e][4 - place]);
                x.meet();
                due("ahead of it: " + edits[e] + " " + place, x.cursor(1, 0), others[e][place]);
                due("ahead of it: " + edits[e] + " " + place, x.cursor(1, 1), others[e][4 - place]);
                due("its own REVISION moves nothing", x.cursor(0, 0), own[e][place]);
            }
        }
    }

    private static void meetingOfNobody() {
        fresh();
        due("till all is SERVED and HEARD", x.meet(), 0);
        for (int c = 0; c < 4; c++) x.insert(c, 0, c, 0);
        due("CLIENTS in turn, 0 on", x.meet(), 4);
        reads("CLIENTS in turn, 0 on", 4, "abcd");
        for (int n = 1; n <= 4; n++) due("by that CLIENT", x.revision(0, n), n - 1);
        due("again", x.meet(), 4);
        x.insert(2, 0, 9, 0);
        x.serve(2);
        due("each is SERVED, if something is SENT that wasn't yet", x.meet(), 5);
        due("CLIENTS whose TEXT is the SERVER's", x.status(1), 4);
    }

    // ---------------------------------------------------------------- terms 3

    /** A seed from which the draws below these numbers come out so. */
    private static int seedFor(int[] below, int[] drawn) {
        for (int seed = 0; seed < 1000000; seed++) {
            long at = seed;
            boolean fits = true;
            for (int k = 0; k < below.length && fits; k++) {
                at = next(at);
                fits = upper(at) % below[k] == drawn[k];
            }
            if (fits) return seed;
        }
        Check.that("a seed was found", false);
        return 0;
    }

    private static long next(long seed) {
        return (seed * 1103515245L + 12345L) & 0xffffffffL;
    }

    private static long upper(long seed) {
        return seed / 65536;
    }

    private static int after(int seed, int draws) {
        long at = seed & 0xffffffffL;
        for (int k = 0; k < draws; k++) at = next(at);
        return (int) at;
    }

    /** Client 1 does this deed in one day: whether something was done, and how much was drawn. */
    private static void day(String sentence, int deed, int busy, int draws) {
        int seed = seedFor(new int[] {4, 8}, new int[] {1, deed});
        x.seed(seed);
        due(sentence, x.days(1), busy);
        due("nothing more is drawn: " + sentence, x.status(6), after(seed, draws));
        for (int w = 12; w <= 16; w++) due("nothing is refused", x.status(w), 0);
    }

    private static void daysAtTheEdge() {
        for (int deed = 0; deed <= 7; deed++) {
            fresh();
            day("nothing there yet, deed " + deed, deed, deed <= 2 ? 1 : 0, deed <= 2 ? 4 : 2);
        }
        for (int deed = 0; deed <= 2; deed++) {
            fresh();
            write(1, many("a", 59));
            day("(if that is below 60 long)", deed, 1, 4);
            due("(if that is below 60 long)", x.length(1), 60);
            day("(if that is below 60 long)", deed, 0, 2);
            due("(if that is below 60 long)", x.length(1), 60);
        }
        fresh();
        x.insert(1, 0, 4, 15);
        day("1 LETTER gets MARK bit ON that it has", 4, 1, 4);
        due("it is DONE all the same", x.clientOf(1, 4), 2);
        day("3: 1 LETTER is deleted", 3, 1, 3);
        due("3: 1 LETTER is deleted", x.length(1), 0);
        day("if it isn't empty", 3, 0, 2);
        day("if it isn't empty", 4, 0, 2);
        day("5: UNDO", 5, 1, 2);
        due("5: UNDO", x.length(1), 1);
        day("6: it is SERVED", 6, 1, 2);
        day("6: it is SERVED, if serve() wouldn't", 6, 0, 2);
        day("7: it HEARS", 7, 1, 2);
        day("7: it HEARS, if hear() wouldn't", 7, 0, 2);
        for (int k = 0; k < 2; k++) day("5: UNDO", 5, 1, 2);
        day("5: UNDO, if undo() wouldn't be refused", 5, 0, 2);
        allHave(many("a", 60));
        x.cut(1, 0, 60);
        x.meet();
        x.insert(0, 0, 0, 0);
        x.meet();
        day("5: UNDO, if undo() wouldn't be FULL", 5, 0, 2);
        fresh();
        int seed = seedFor(new int[] {4, 8, 26, 1, 4, 8, 26, 2}, new int[] {1, 0, 25, 0, 1, 2, 0, 1});
        x.seed(seed);
        due("DAYS by draws, n (1 to 60)", x.days(2), 2);
        reads("inserted at a DRAW below 1 more than its TEXT is long", 1, "za");
        fresh();
        write(1, "abc");
        seed = seedFor(new int[] {4, 8, 3, 4, 4, 8, 3}, new int[] {1, 4, 2, 3, 1, 3, 0});
        x.seed(seed);
        due("4: 1 LETTER gets MARK bit (a DRAW below 4) ON; 3: 1 LETTER is deleted", x.days(2), 2);
        reads("from a DRAW below how long it is on", 1, "bc8");
    }

    private static void drawsWrapAround() {
        String sentence = "SEED becomes SEED times 1103515245, and 12345 (an int, wrapping)";
        fresh();
        due("SEED (1 at first)", x.status(6), 1);
        int[] seeds = {LEAST, LEAST + 1, -2, -1, 0, 1, 2, 12345, 1103515245, 0x7fff0000, 0xffff0000, MOST - 1, MOST};
        for (int seed : seeds) {
            for (int other = 0; other < 40; other++) {
                int from = seed + other * 7919;
                fresh();
                due("the one ahead", x.seed(from), 1);
                due("SEED becomes v", x.status(6), from);
                long first = next(from & 0xffffffffL);
                long second = next(first);
                int client = (int) (upper(first) % 4);
                boolean inserts = upper(second) % 8 <= 2;
                due("its upper 16 bits, no sign, modulo n", x.days(1), inserts ? 1 : 0);
                due(sentence, x.status(6), after(from, inserts ? 4 : 2));
                for (int c = 0; c < 4; c++) due("a CLIENT by a DRAW below 4", x.length(c), inserts && c == client ? 1 : 0);
                long letter = upper(next(second)) % 26;
                if (inserts) due("(a DRAW below 26)", x.text(client, 0, 0), letter);
            }
        }
    }

    private static void rowsKeepTheirLowestBits() {
        String sentence = "what is put in keeps its lowest bits (of booleans: whether it is not 0)";
        fresh();
        for (int sort = 0; sort <= 4; sort++) x.row(sort, sort, 1);
        long[] edges = {0, 1, -1, 127, 128, 129, 255, 256, 257, -127, -128, -129, -256, 32767, 32768, 65535, 65536, -32768, -32769,
            MOST, MOST + 1L, LEAST, LEAST - 1L, 0xffffffffL, 1L << 32, 1L << 63, Long.MAX_VALUE, Long.MIN_VALUE + 1};
        for (long v : edges) {
            for (int sort = 0; sort <= 4; sort++) due("set", x.set(sort, 0, v), 1);
            due(sentence, x.element(0, 0), (v & 255) - (v & 128) * 2);
            due(sentence, x.element(1, 0), (v & 65535) - (v & 32768) * 2);
            due(sentence, x.element(2, 0), (v & 0xffffffffL) - (v & 0x80000000L) * 2);
            due(sentence, x.element(3, 0), v);
            due("told they are numbers (1, 0)", x.element(4, 0), v == 0 ? 0 : 1);
        }
    }

    private static void rowsOfNoneAndOfForty() {
        fresh();
        String sentence = "A ROW has .. 0 to 40 elements (0, or not so, at first)";
        for (int sort = 0; sort <= 4; sort++) {
            due(sentence, x.row(0, sort, 0), 1);
            due("0 to 4 a ROW by its SORT", x.holds(0), sort);
            due(sentence, x.set(0, 0, 1), BAD);
            due("0: none", x.element(0, 0), 0);
            due(sentence, x.row(0, sort, 40), 1);
            for (int i = 0; i < 40; i++) due(sentence, x.element(0, i), 0);
            due(sentence, x.set(0, 39, 1), 1);
            due(sentence, x.element(0, 39), 1);
            due(sentence, x.set(0, 40, 1), BAD);
            due("0: none", x.element(0, 40), 0);
            due("0: none", x.element(0, -1), 0);
        }
        due("a ROW in each", x.status(7), 1);
        for (int s = 0; s < 8; s++) x.row(s, 0, 0);
        due("SHELVES that hold something", x.status(7), 8);
        for (int s = 0; s < 8; s++) x.show(s, EditsMeet.NONE, 0);
        due("or NOTHING (edit NONE)", x.status(7), 0);
        due("NONE NOTHING", x.holds(0), EditsMeet.NONE);
        due("NONE .. no SHELF", x.holds(-1), EditsMeet.NONE);
        due("NONE .. no SHELF", x.holds(8), EditsMeet.NONE);
        due("0: .. no ROW (nothing is refused)", x.element(0, 0) + x.element(8, 0) + x.element(-1, 0), 0);
        due("(nothing is refused)", x.status(12) + x.status(14), 10);
    }

    private static void copiesAtTheEdge() {
        fresh();
        x.row(0, 3, 40);
        x.row(1, 3, 40);
        for (int i = 0; i < 40; i++) x.set(0, i, i + 1);
        due("n elements: all", x.copy(0, 1, 0, 0, 40), 40);
        for (int i = 0; i < 40; i++) due("n elements: all", x.element(1, i), i + 1);
        due("n elements: none", x.copy(1, 0, 0, 39, 0), 0);
        due("n elements: none", x.element(0, 39), 40);
        due("the last", x.copy(0, 1, 39, 0, 1), 1);
        due("the last", x.element(1, 0), 40);
        due("to the last", x.copy(0, 1, 0, 39, 1), 1);
        due("to the last", x.element(1, 39), 1);
        due("(as they were)", x.copy(0, 0, 0, 1, 39), 39);
        for (int i = 1; i < 40; i++) due("(as they were)", x.element(0, i), i);
        due("(as they were)", x.copy(0, 0, 1, 0, 39), 39);
        for (int i = 0; i < 39; i++) due("(as they were)", x.element(0, i), i + 1);
    }

    private static void partsAsTheyWere() {
        fresh();
        String sentence = "a PART (as it was when it was shown)";
        ed(0, "+cd-2=3^4.3");
        for (int i = 0; i < 4; i++) x.show(i, 0, i);
        ed(0, "=9");
        ed(0, "-1");
        int[] holds = {11, 14, 13, 15};
        int[] n = {2, 2, 3, 4};
        for (int i = 0; i < 4; i++) {
            due("10 and the KIND of a PART", x.holds(i), holds[i]);
            due(sentence, x.says(i, 0), n[i]);
        }
        due("INSERT its first LETTER", x.says(0, 1), 2);
        due("DELETE its n, 100 more", x.says(1, 4), 102);
        due("KEEP how many bits it turns (0 to 4): 0", x.says(2, 3), 0);
        due("MARK 16 times ON, and OFF", x.says(3, 5), 48);
        ed(0, "^1.15");
        x.show(0, 0, 0);
        due("(0 to 4): 4", x.says(0, 3), 4);
        due("MARK 16 times ON, and OFF", x.says(0, 5), 240);
        ed(1, "_1.15");
        x.show(0, 1, 0);
        due("(0 to 4): 4", x.says(0, 3), 4);
        due("MARK 16 times ON, and OFF", x.says(0, 5), 15);
        ed(1, "+a");
        x.show(0, 1, 0);
        due("LETTER (0 to 25)", x.says(0, 1), 0);
        ed(1, "+z");
        x.show(0, 1, 0);
        due("LETTER (0 to 25)", x.says(0, 1), 25);
        ed(1, "+z");
        ed(2, "^1.15");
        x.behind(1, 1, 2);
        x.show(0, 1, 0);
        due("its first LETTER, without MARKS", x.says(0, 1), 25);
        due("PART how many LETTERS it .. inserts", x.says(0, 0), 1);
    }

    private static void lengthsThatFit() {
        fresh();
        String sentence = "its TEXT would be longer than 60, and longer than it is";
        for (int n = 1; n <= 60; n++) due("how long its TEXT is", x.insert(0, n - 1, 0, 0), n);
        due("its TEXT would be longer than 60", x.insert(0, 0, 0, 0), FULL);
        ed(0, "=60+a");
        due(sentence, x.does(0, 0), FULL);
        ed(0, "-1=59+ab");
        due(sentence, x.does(0, 0), FULL);
        ed(0, "-1=59+a");
        due(sentence, x.does(0, 0), 60);
        x.cut(0, 0, 1);
        ed(0, "=59+ab");
        due(sentence, x.does(0, 0), FULL);
        ed(0, "=59+a");
        due(sentence, x.does(0, 0), 60);
        x.meet();
        ed(0, "-60+" + many("q", 60));
        for (int c = 0; c < 4; c++) due(sentence, x.does(c, 0), 60);
        x.meet();
        for (int c = 0; c < 5; c++) due("for what it HEARS the document names no bound", x.length(c), 240);
        due("all LETTERS of all TEXTS together", x.status(3), 1200);
        ed(0, "=99=99=41-1+a");
        due("longer than 60, but not longer than it is", x.does(0, 0), 240);
        ed(0, "=99=99=42+a");
        due("longer than 60, and longer than it is", x.does(0, 0), FULL);
        ed(0, "=99=99=40-2+a");
        due("shorter", x.does(0, 0), 239);
        due("longer than 60, and longer than it is", x.undo(0), FULL);
        due("its TEXT would be longer than 60", x.insert(0, 0, 0, 0), FULL);
        due("where there are not so many", x.cut(0, 0, 240), BAD);
        due("where there are not so many", x.mark(0, 1, 239, 0, 1), BAD);
        due("how many of them had it otherwise", x.mark(0, 0, 239, 0, 1), 239);
        due("how many of them had it otherwise", x.mark(0, 0, 239, 0, 1), 0);
        due("how long its TEXT is", x.cut(0, 0, 239), 0);
    }

    private static void textsThatEnd() {
        fresh();
        for (int a = 0; a < 5; a++) {
            due("(4: the SERVER's): empty", x.length(a), 0);
            due("NONE", x.apart(a, 4 - a), EditsMeet.NONE);
            for (int bit = 0; bit <= 4; bit++) due("LETTERS (bits): none", x.marked(a, bit), 0);
            due("BAD", x.text(a, 0, 0), BAD);
        }
        write(0, "a");
        write(1, "ab");
        write(2, "b");
        due("where one ends ahead of the other: there", x.apart(3, 0), 0);
        due("where one ends ahead of the other: there", x.apart(0, 1), 1);
        due("where one ends ahead of the other: there", x.apart(1, 0), 1);
        due("The first PLACE", x.apart(0, 2), 0);
        x.mark(1, 0, 1, 3, 1);
        due("(in anything)", x.apart(0, 1), 0);
        due("CLIENTS whose TEXT is the SERVER's", x.status(1), 1);
        due("with a MARK (bit 0 to 3; 4: with none at all)", x.marked(1, 3), 1);
        due("with a MARK (bit 0 to 3; 4: with none at all)", x.marked(1, 4), 2);
        x.insert(3, 0, 25, 15);
        for (int bit = 0; bit <= 3; bit++) due("with a MARK", x.marked(3, bit), 1 << 25);
        due("with none at all", x.marked(3, 4), 0);
        x.insert(3, 0, 25, 0);
        due("with none at all", x.marked(3, 4), 1 << 25);
        ed(0, "+ab");
        ed(1, "+abc");
        ed(2, "+ab=1");
        x.behind(3, 0, 9);
        due("The first PART at which two EDITS differ", x.differ(0, 1), 0);
        due("one ends ahead", x.differ(0, 2), 1);
        due("one ends ahead", x.differ(2, 0), 1);
        due("NONE", x.differ(2, 2), EditsMeet.NONE);
        ed(4, "-2");
        x.behind(5, 0, 4);
        x.behind(6, 0, 4);
        due("no PARTS", x.differ(5, 6), EditsMeet.NONE);
        due("no PARTS", x.differ(5, 0), 0);
        due("NOTHING", x.differ(5, 10), NOTHING);
    }

    private static void toldTexts() {
        fresh();
        x.row(0, 0, 40);
        due("none told, none there", x.judge(0, 0, 0), EditsMeet.NONE);
        due("or none", x.judge(0, 0, 1), 0);
        due("or none", x.judge(0, 0, 20), 0);
        for (int n = 1; n <= 19; n++) x.insert(0, 0, 0, 0);
        due("or none", x.judge(0, 0, 20), 19);
        x.insert(0, 0, 0, 0);
        due("(0 to 20)", x.judge(0, 0, 20), EditsMeet.NONE);
        due("or more than told", x.judge(0, 0, 19), 19);
        due("or more than told", x.judge(0, 0, 0), 0);
        x.insert(0, 20, 0, 0);
        due("or more than told", x.judge(0, 0, 20), 20);
        x.cut(0, 0, 1);
        x.mark(0, 19, 1, 3, 1);
        due("at which it has another one", x.judge(0, 0, 20), 19);
        x.set(0, 39, 8);
        due("LETTER, MARKS", x.judge(0, 0, 20), EditsMeet.NONE);
        x.set(0, 38, 1);
        due("at which it has another one", x.judge(0, 0, 20), 19);
        x.set(0, 0, 1);
        due("the first place", x.judge(0, 0, 20), 0);
        x.row(1, 0, 39);
        due("BAD: fewer elements", x.judge(0, 1, 20), BAD);
        due("as many elements", x.judge(0, 1, 19), 19);
        x.row(1, 0, 1);
        due("BAD: fewer elements", x.judge(4, 1, 1), BAD);
        due("as many elements", x.judge(4, 1, 0), EditsMeet.NONE);
    }

    private static void countsOfRefusals() {
        fresh();
        for (int w = 12; w <= 16; w++) due("REFUSALS -2 to -6", x.status(w), 0);
        int[] others = {LEAST, -1, 8, 9, 10, 11, 17, 18, MOST};
        for (int w : others) due("NONE another what", x.status(w), EditsMeet.NONE);
        x.row(0, 0, 1);
        x.length(5);
        x.says(0, 0);
        x.says(1, 0);
        x.hear(0);
        for (int k = 0; k < 251; k++) x.feed(0);
        for (int w = 12; w <= 16; w++) due("REFUSALS -2 to -6", x.status(w), 1);
        x.image();
        x.length(5);
        x.back();
        due("but .. REFUSALS", x.status(12), 2);
        for (int w = 13; w <= 16; w++) due("REFUSALS -2 to -6", x.status(w), 1);
    }

    private static void whatAnImageKeeps() {
        fresh();
        due("STUCK: nothing was", x.back(), STUCK);
        x.seed(5);
        write(0, "ab");
        x.image();
        x.undo(0);
        x.image();
        x.redo(0);
        x.meet();
        x.seed(6);
        due("All is again as it was kept", x.back(), 1);
        due("REVISION", x.status(0), 0);
        due("to REDO", x.clientOf(0, 5), 1);
        due("to UNDO", x.clientOf(0, 4), 0);
        due("SEED", x.status(6), 5);
        due("TEXT", x.length(0) + x.length(4), 0);
        due("redo", x.redo(0), 0);
        due("meet", x.meet(), 1 + 1);
        due("again, as often as asked", x.back(), 1);
        due("again, as often as asked", x.back(), 1);
        due("to REDO", x.clientOf(0, 5), 1);
        fresh();
        write(2, "abcd");
        x.point(2, 1, 3);
        x.image();
        x.point(2, 4, 0);
        x.back();
        due("a CURSOR", x.cursor(2, 0), 1);
        due("a CURSOR", x.cursor(2, 1), 3);
        fresh();
        x.image();
        for (int c = 0; c < 4; c++) write(c, "abc");
        x.meet();
        x.back();
        for (int c = 0; c < 5; c++) due("an image of nothing", x.length(c), 0);
        due("an image of nothing", x.status(0) + x.status(4), 0);
        due("but EDITS by number", x.status(2), 1);
        due("meet", x.meet(), 0);
    }
}

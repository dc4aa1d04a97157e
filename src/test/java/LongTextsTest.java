import java.util.Random;

/**
 * Texts that become long by what others insert. Some thousand letters are compared with the slow
 * Model, letter by letter; where that would be too slow, what is due is reckoned: each round makes
 * the text four times as long.
 */
public final class LongTextsTest {
    private static final int BAD = -2, STUCK = -5, FULL = -6;
    private static final int MOST = Integer.MAX_VALUE;
    private static final String BASE = "abcdefghijklmno";

    private final Random random;
    private final EditsMeet real = new EditsMeet();
    private final Model model = new Model();
    private final StringBuilder story = new StringBuilder();
    private boolean isAlike = true;

    private LongTextsTest(long seed) {
        random = new Random(seed);
    }

    public static void main(String[] args) {
        for (int run = 0; run < 60; run++) {
            LongTextsTest test = new LongTextsTest(run);
            test.go(run % 6 == 0 ? 3 : 2);
            Check.that("run " + run, test.isAlike);
        }
        aMillionLetters();
        longParts();
        marksInLongTexts();
        millionsOfParts();
        cursorsInLongTexts();
        asLongAsAnIntTells();
        Check.end();
    }

    // ---------------------------------------------------------------- compared with the Model

    private void go(int rounds) {
        write(60);
        told("meet", real.meet(), model.meet());
        for (int round = 0; round < rounds && isAlike; round++) {
            replaceAll(round);
            disturb(8);
            told("meet", real.meet(), model.meet());
            compareTexts();
            for (int c = 0; c < 4; c++) told("takes " + c, real.takes(3 + c, c, 2), model.takes(3 + c, c, 2));
        }
        due("four times as long each round", real.length(4), rounds == 3 ? 3840 : 960);
        disturb(60);
        told("meet", real.meet(), model.meet());
        compareTexts();
    }

    private void write(int n) {
        for (int i = 0; i < n; i++) {
            int letter = random.nextInt(26);
            int marks = random.nextInt(3) == 0 ? random.nextInt(16) : 0;
            int place = random.nextInt(real.length(0) + 1);
            told("insert", real.insert(0, place, letter, marks), model.insert(0, place, letter, marks));
        }
    }

    /** Each client replaces the whole text by as many letters; of a long one what the others inserted, one by one. */
    private void replaceAll(int round) {
        int n = real.length(0);
        if (round == 0) {
            told("image", real.image(), model.image());
            told("cut", real.cut(0, 0, n), model.cut(0, 0, n));
            told("takes", real.takes(0, 0, 0), model.takes(0, 0, 0));
            told("takes", real.takes(1, 0, 2), model.takes(1, 0, 2));
            told("behind", real.behind(7, 0, 1), model.behind(7, 0, 1));
            told("back", real.back(), model.back());
        } else {
            told("mark", real.mark(0, 0, 1, 0, 1), model.mark(0, 0, 1, 0, 1));
            for (int c = 0; c < 4; c++) told("does", real.does(0, 3 + c), model.does(0, 3 + c));
            told("takes", real.takes(7, 0, 1), model.takes(7, 0, 1));
        }
        for (int c = 0; c < 4; c++) told("does " + c, real.does(c, 7), model.does(c, 7));
    }

    /** Calls that keep every text as long as it is, so that edits from ahead fit still; and questions. */
    private void disturb(int calls) {
        for (int k = 0; k < calls && isAlike; k++) {
            int c = random.nextInt(4);
            int n = model.length(c);
            int place = random.nextInt(n + 2) - 1;
            int some = random.nextInt(n + 2) - 1;
            int e = random.nextInt(12);
            switch (random.nextInt(calls > 8 ? 16 : 5)) {
                case 0: told("hear", real.hear(c), model.hear(c)); break;
                case 1: told("serve", real.serve(c), model.serve(c)); break;
                case 2: told("point", real.point(c, place, some), model.point(c, place, some)); break;
                case 3: ask(c, place, e); break;
                case 4: ask(c, place, 3 + random.nextInt(5)); break;
                case 5: told("cut", real.cut(c, place, some), model.cut(c, place, some)); break;
                case 6: case 7: {
                    int bit = random.nextInt(4), is = random.nextInt(2);
                    told("mark", real.mark(c, place, some, bit, is), model.mark(c, place, some, bit, is));
                    break;
                }
                case 8: told("undo", real.undo(c), model.undo(c)); break;
                case 9: told("redo", real.redo(c), model.redo(c)); break;
                case 10: {
                    int w = random.nextInt(4);
                    told("takes", real.takes(e, c, w), model.takes(e, c, w));
                    break;
                }
                case 11: told("does", real.does(c, e), model.does(c, e)); break;
                case 12: told("over", real.over(e, 3, 7, 1), model.over(e, 3, 7, 1)); break;
                case 13: told("turned", real.turned(e, 3 + place % 5, c), model.turned(e, 3 + place % 5, c)); break;
                case 14: told("days", real.days(9), model.days(9)); break;
                default: told("insert", real.insert(c, place, 3, 0), model.insert(c, place, 3, 0));
            }
        }
    }

    private void ask(int c, int place, int e) {
        int o = random.nextInt(5), bit = random.nextInt(5), other = random.nextInt(12), k = random.nextInt(999);
        told("apart", real.apart(c, o), model.apart(c, o));
        told("marked", real.marked(c, bit), model.marked(c, bit));
        told("text", real.text(c, place, bit), model.text(c, place, bit));
        told("cursor", real.cursor(c, 0), model.cursor(c, 0));
        told("differ", real.differ(e, other), model.differ(e, other));
        for (int w = 0; w < 6; w++) told("of " + w, real.of(e, w), model.of(e, w));
        for (int i = 0; i < 5; i++) {
            for (int w = 0; w < 4; w++) told("part " + w, real.part(e, i, w), model.part(e, i, w));
            told("letter", real.letter(e, i, k), model.letter(e, i, k));
            told("spelled", real.spelled(e, i * k), model.spelled(e, i * k));
            told("show", real.show(0, e, i), model.show(0, e, i));
            for (int kind = 0; kind < 6; kind++) told("says", real.says(0, kind), model.says(0, kind));
        }
    }

    private void compareTexts() {
        for (int c = 0; c < 5 && isAlike; c++) {
            int n = model.length(c);
            told("length of " + c, real.length(c), n);
            for (int p = 0; p < n && isAlike; p++) {
                told("letter", real.text(c, p, 0), model.text(c, p, 0));
                told("marks", real.text(c, p, 1), model.text(c, p, 1));
            }
            story.setLength(0);
        }
        for (int w = 0; w < 18; w++) told("status " + w, real.status(w), model.status(w));
        for (int c = 0; c < 4; c++) {
            for (int w = 0; w < 7; w++) told("clientOf " + w, real.clientOf(c, w), model.clientOf(c, w));
            for (int w = 0; w < 2; w++) told("cursor " + w, real.cursor(c, w), model.cursor(c, w));
        }
    }

    private void told(String call, long got, long want) {
        if (!isAlike) return;
        story.append(call).append(" = ").append(want).append('\n');
        if (got == want) return;
        isAlike = false;
        System.out.println(story + "  but answered " + got);
    }

    // ---------------------------------------------------------------- reckoned

    private static EditsMeet x;

    private static void due(String call, long got, long want) {
        Check.due(call, got, want);
    }

    private static void ed(int n, String spelled) {
        for (int i = 0; i < spelled.length(); i++) x.feed(spelled.charAt(i));
        x.edit(n);
    }

    /** All have BASE four times, four times each; edits 0 and 2 write and replace BASE four times. */
    private static void start() {
        x = new EditsMeet();
        ed(0, "+" + BASE + BASE + BASE + BASE);
        x.turned(1, 0, 0);
        x.behind(2, 1, 0);
        for (int c = 0; c < 4; c++) x.does(c, 0);
        for (int c = 0; c < 4; c++) x.does(c, 2);
        due("meet", x.meet(), 8);
    }

    /** All replace the whole text at once by edit 7, which client 0 makes of what undoes the last round. */
    private static void grow() {
        for (int c = 0; c < 4; c++) x.takes(3 + c, c, 2);
        x.mark(0, 0, 1, 0, 1);
        for (int c = 0; c < 4; c++) x.does(0, 3 + c);
        x.takes(7, 0, 1);
        for (int c = 0; c < 4; c++) x.does(c, 7);
        x.meet();
    }

    private static void growTo(int rounds) {
        start();
        for (int round = 0; round < rounds; round++) grow();
    }

    private static void aMillionLetters() {
        start();
        int length = 240;
        for (int round = 0; round < 10; round++) {
            for (int c = 0; c < 5; c++) due("length of " + c, x.length(c), length);
            for (int c = 0; c < 5; c++) due("apart", x.apart(0, c), EditsMeet.NONE);
            due("all letters", x.status(3), Math.min(5L * length, MOST));
            due("alike", x.status(1), 4);
            for (long p = 0; p < length; p += 1 + length / 97) due("text at " + p, x.text(4, (int) p, 0), p % 15);
            due("the last", x.text(1, length - 1, 0), 14);
            due("behind the last", x.text(1, length, 0), BAD);
            due("letters", x.marked(2, 4), (1 << 15) - 1);
            x.image();
            due("mark the last", x.mark(3, length - 1, 1, 3, 1), 1);
            due("its letter", x.marked(3, 3), 1 << 14);
            due("others have none", x.marked(3, 4), (1 << 15) - 1);
            due("apart", x.apart(3, 4), length - 1);
            due("mark all", x.mark(3, 0, length, 2, 1), length);
            due("letters", x.marked(3, 4), 0);
            x.back();
            due("too long", x.insert(0, 0, 1, 0), FULL);
            grow();
            length *= 4;
        }
        due("a thousand million letters would be four times as many", x.length(4), length);
        x = new EditsMeet();
        start();
        for (int round = 0; round < 6; round++) grow();
        due("cut", x.cut(0, 0, 1), 983039);
        due("cut", x.cut(0, 983038, 2), BAD);
        due("cut", x.cut(0, 491520, 491519), 491520);
        due("undo", x.undo(0), FULL);
        due("meet", x.meet(), 40);
        due("length", x.length(3), 491520);
        for (int p = 0; p < 491520; p += 997) due("text at " + p, x.text(3, p, 0), (p + 1) % 15);
    }

    private static void longParts() {
        growTo(6);
        due("to undo", x.takes(7, 1, 2), 3);
        due("from", x.of(7, 1), 983040);
        due("to", x.of(7, 2), 983040);
        x.image();
        due("cut", x.cut(0, 0, 983040), 0);
        due("takes", x.takes(0, 0, 0), 1);
        due("takes", x.takes(1, 0, 2), 1);
        due("deletes", x.part(0, 0, 1), 983040);
        due("inserts", x.part(1, 0, 1), 983040);
        due("from", x.of(0, 1), 983040);
        due("to", x.of(1, 2), 983040);
        due("deleted", x.of(0, 4), 983040);
        due("inserted", x.of(1, 3), 983040);
        due("letter", x.letter(1, 0, 983039), 14);
        due("letter", x.letter(1, 0, 983040), BAD);
        due("spelled", x.spelled(1, 983040), 'o');
        due("spelled", x.spelled(1, 983041), EditsMeet.NONE);
        spells(0, "-983040");
        x.show(0, 0, 0);
        due("says", x.says(0, 4), 983140);
        due("says", x.says(0, 2), 983040);
        x.show(0, 1, 0);
        due("says", x.says(0, 0), 983040);
        due("says", x.says(0, 1), 0);
        due("as many come back, but more than 60", x.does(0, 1), FULL);
        due("behind", x.behind(2, 0, 1), FULL);
        due("behind", x.behind(2, 1, 0), 0);
        due("over", x.over(2, 0, 7, 1), FULL);
        due("turned", x.turned(2, 1, 0), FULL);
        due("differ", x.differ(0, 1), 0);
        due("differ", x.differ(1, 1), EditsMeet.NONE);
        x.back();
        due("back", x.length(0), 983040);
        due("does", x.does(1, 0), 0);
        due("mark", x.mark(0, 1, 983038, 2, 1), 983038);
        due("marked once", x.mark(0, 0, 983040, 2, 1), 2);
        x.takes(0, 0, 1);
        spells(0, "^983040.4");
        x.takes(0, 0, 2);
        spells(0, "_1.4=983038_1.4");
        due("marked", x.of(0, 5), 2);
    }

    private static void spells(int edit, String spelled) {
        StringBuilder found = new StringBuilder();
        for (int i = 0; x.spelled(edit, i) >= 0 && i < 99; i++) found.append((char) x.spelled(edit, i));
        Check.same("edit " + edit, found.toString(), spelled);
    }

    /** All have BASE four times with a mark on every third letter, and grow from there. */
    private static void growMarked(int rounds) {
        x = new EditsMeet();
        ed(0, "+" + BASE + BASE + BASE + BASE);
        x.does(0, 0);
        for (int p = 0; p < 60; p += 3) x.mark(0, p, 1, 1, 1);
        x.meet();
        x.image();
        x.cut(0, 0, 60);
        x.takes(0, 0, 2);
        x.takes(1, 0, 0);
        x.behind(2, 1, 0);
        x.back();
        for (int c = 0; c < 4; c++) x.does(c, 2);
        x.meet();
        for (int round = 0; round < rounds; round++) grow();
    }

    /** What turns a mark on all letters has a part for each stretch of letters that have it otherwise. */
    private static void marksInLongTexts() {
        growMarked(4);
        int n = 61440;
        due("length", x.length(4), n);
        for (int p = 0; p < n; p += 101) due("marks at " + p, x.text(4, p, 1), p % 3 == 0 ? 2 : 0);
        due("otherwise", x.mark(0, 0, n, 1, 1), n - n / 3);
        due("stretches", x.takes(0, 0, 2), 2 * n / 3);
        due("marked", x.of(0, 5), n - n / 3);
        due("part", x.part(0, 2 * n / 3 - 1, 1), 2);
        due("part", x.part(0, 2 * n / 3 - 1, 3), 2);
        due("all have it", x.marked(0, 4), 0);
        due("apart", x.apart(0, 4), 1);
        due("undo", x.undo(0), x.clientOf(0, 4));
        due("as it was", x.apart(0, 4), EditsMeet.NONE);
        due("redo", x.redo(0), 0);
        due("apart", x.apart(0, 4), 1);
        x.serve(0);
        due("otherwise", x.mark(1, 1, n - 1, 1, 0), n / 3 - 1);
        x.meet();
        for (int c = 1; c < 5; c++) due("apart", x.apart(0, c), EditsMeet.NONE);
        int turnedAgain = (1 << 1 | 1 << 2) * 0b1001001001001;
        due("what waited turned it on again, but of the letters that had it", x.marked(4, 1), 1 | turnedAgain);
    }

    /** Ten million parts are told and worked with rightly, too. */
    private static void millionsOfParts() {
        growMarked(8);
        int n = 15728640;
        due("length", x.length(0), n);
        due("otherwise", x.mark(0, 0, n, 1, 1), n - n / 3);
        due("otherwise", x.mark(1, 0, n, 1, 1), n - n / 3);
        due("parts", x.takes(0, 0, 2), 2 * n / 3);
        due("parts", x.takes(1, 1, 2), 2 * n / 3);
        due("alike", x.differ(0, 1), EditsMeet.NONE);
        due("undo", x.undo(0), x.clientOf(0, 4));
        due("apart", x.apart(0, 2), EditsMeet.NONE);
        due("redo", x.redo(0), 0);
        due("apart", x.apart(0, 1), EditsMeet.NONE);
        due("revisions", x.meet(), 49);
        for (int c = 0; c < 4; c++) due("apart", x.apart(c, 4), EditsMeet.NONE);
        due("all have it", x.marked(4, 1), 0x7fff);
        due("undo", x.undo(1), x.clientOf(1, 4));
        due("what both marked is as it was", x.marked(1, 1), 0b1001001001001);
    }

    private static void cursorsInLongTexts() {
        growTo(6);
        due("point", x.point(0, 983040, 983039), 1);
        due("point", x.point(0, 983041, 0), BAD);
        due("point", x.point(0, 0, 983041), BAD);
        due("cut", x.cut(1, 10, 983000), 40);
        x.meet();
        due("cursor", x.cursor(0, 0), 40);
        due("cursor", x.cursor(0, 1), 39);
        due("insert", x.insert(0, 40, 0, 0), 41);
        due("its own moves it on", x.cursor(0, 0), 41);
    }

    /** What an int can't tell is told as the most that it can; the calls go on. */
    private static void asLongAsAnIntTells() {
        growTo(11);
        due("revisions", x.status(0), 63);
        due("length", x.length(4), 1006632960);
        due("cut", x.cut(0, 0, 1), 1006632959);
        due("all letters", x.status(3), MOST);
        x.meet();
        due("text", x.text(3, 1006632958, 0), 14);
        grow();
        due("stuck no more", x.serve(0), STUCK);
        due("alike", x.status(1), 4);
        growTo(12);
        due("length", x.length(4), MOST);
        due("text", x.text(4, MOST, 0), 7);
        due("cut", x.cut(0, 0, MOST), 4026531840L - MOST);
        due("takes", x.takes(0, 0, 0), 2);
        due("part", x.part(0, 0, 1), MOST);
        due("from", x.of(0, 1), MOST);
        due("it meets", x.meet(), 69);
        due("apart", x.apart(0, 4), EditsMeet.NONE);
    }
}

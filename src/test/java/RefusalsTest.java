import java.lang.reflect.Method;
import java.util.ArrayList;
import java.util.List;

/**
 * Each refusal of each call: the first number that may not be, on both sides, and the last that may;
 * the order of the refusals where more than one fits; and that a refused call changes nothing but how
 * many there were. For that two objects have the same past; one is asked the call that is refused,
 * then both are asked about all that they hold.
 */
public final class RefusalsTest {
    private static final int BAD = -2, OTHER = -3, NOTHING = -4, STUCK = -5, FULL = -6;
    private static final int LEAST = Integer.MIN_VALUE, MOST = Integer.MAX_VALUE;
    private static final int ASPECTS = 6;

    private enum Past { BASE, KEPT, TAPE_FULL, SIXTY, NINETY, LONG, HISTORIES, HUGE, MUCH }

    private static Past past = Past.BASE;

    public static void main(String[] args) {
        shelves();
        tape();
        editsByNumber();
        weaving();
        doing();
        servingAndHearing();
        asking();
        full();
        neverRefused();
        editEmptiesTheTape();
        meetKeepsWhatWasHeard();
        Check.end();
    }

    // ---------------------------------------------------------------- what is due

    private static void shelves() {
        past = Past.BASE;
        long[] row = {1, 0, 1};
        limits("row", row, 0, 0, 7);
        limits("row", row, 1, 0, 4);
        limits("row", row, 2, 0, 40);
        long[] set = {0, 0, 9};
        limits("set", set, 0, 0, 7, 2, 3, 4, 5, 6);
        limits("set", set, 1, 0, 39);
        accepted("set", 0, 0, Long.MAX_VALUE);
        accepted("set", 0, 0, Long.MIN_VALUE);
        refused(BAD, "set", 6, 0, 1);
        refused(OTHER, "set", 2, 0, 1);
        refused(OTHER, "set", 2, -1, 1);
        refused(NOTHING, "set", 3, 0, 1);
        refused(NOTHING, "set", 3, -1, 1);
        long[] copy = {0, 7, 0, 0, 1};
        limits("copy", copy, 0, 0, 7);
        limits("copy", copy, 1, 0, 7);
        limits("copy", copy, 2, 0, 39);
        limits("copy", copy, 3, 0, 39);
        limits("copy", copy, 4, 0, 40);
        accepted("copy", 0, 7, 38, 0, 2);
        refused(BAD, "copy", 0, 7, 39, 0, 2);
        accepted("copy", 0, 7, 0, 38, 2);
        refused(BAD, "copy", 0, 7, 0, 39, 2);
        refused(BAD, "copy", 0, 1, 0, 0, 6);
        accepted("copy", 0, 1, 0, 0, 5);
        refused(BAD, "copy", 1, 0, 0, 0, 6);
        refused(BAD, "copy", 8, 2, 0, 0, 1);
        refused(BAD, "copy", 3, -1, 0, 0, 1);
        refused(OTHER, "copy", 0, 2, 0, 0, 1);
        refused(OTHER, "copy", 2, 0, 0, 0, 1);
        refused(OTHER, "copy", 2, 3, 0, 0, 1);
        refused(OTHER, "copy", 3, 2, 0, 0, 1);
        refused(OTHER, "copy", 0, 4, 0, 0, 1);
        refused(OTHER, "copy", 0, 4, 0, 0, -1);
        refused(OTHER, "copy", 2, 2, 99, 0, 1);
        refused(NOTHING, "copy", 0, 3, 0, 0, 1);
        refused(NOTHING, "copy", 3, 0, 99, 0, 1);
        refused(NOTHING, "copy", 3, 3, 0, 0, -1);
        long[] show = {1, 0, 0};
        limits("show", show, 0, 0, 7);
        limits("show", show, 1, -1, 11);
        limits("show", show, 2, 0, 4);
        refused(BAD, "show", 8, 6, 0);
        refused(BAD, "show", -1, -1, 0);
        refused(NOTHING, "show", 1, 6, 0);
        refused(NOTHING, "show", 1, 6, -1);
        limits("says", new long[] {5, 0}, 1, 0, 5);
        for (long s : new long[] {-1, 8, LEAST, MOST}) refused(BAD, "says", s, 0);
        refused(BAD, "says", 0, 6);
        refused(BAD, "says", 3, -1);
        refused(OTHER, "says", 0, 0);
        refused(OTHER, "says", 0, 3);
        refused(NOTHING, "says", 3, 0);
        for (int kind = 0; kind <= 5; kind++) {
            if (kind <= 1) accepted("says", 2, kind);
            else refused(OTHER, "says", 2, kind);
            if (kind == 1 || kind == 4) refused(OTHER, "says", 5, kind);
            else accepted("says", 5, kind);
        }
    }

    private static void tape() {
        past = Past.BASE;
        limits("feed", new long[] {61}, 0, 0, 255);
        past = Past.TAPE_FULL;
        refused(FULL, "feed", 61);
        refused(FULL, "feed", 0);
        refused(FULL, "feed", 255);
        refused(BAD, "feed", 256);
        refused(BAD, "feed", -1);
    }

    private static void editsByNumber() {
        past = Past.BASE;
        limits("of", new long[] {0, 0}, 0, 0, 11);
        limits("of", new long[] {0, 0}, 1, 0, 5);
        refused(NOTHING, "of", 6, 0);
        refused(BAD, "of", 6, 6);
        long[] part = {0, 0, 0};
        limits("part", part, 0, 0, 11);
        limits("part", part, 1, 0, 4);
        limits("part", part, 2, 0, 3);
        refused(NOTHING, "part", 6, 0, 0);
        refused(NOTHING, "part", 6, -1, 0);
        refused(BAD, "part", 6, 0, 4);
        long[] letter = {0, 1, 0};
        limits("letter", letter, 0, 0, 11);
        limits("letter", letter, 2, 0, 1);
        for (long i : new long[] {-1, 5, LEAST, MOST}) refused(BAD, "letter", 0, i, 0);
        for (long i : new long[] {0, 2, 3, 4}) refused(OTHER, "letter", 0, i, 0);
        refused(OTHER, "letter", 0, 0, 99);
        refused(OTHER, "letter", 0, 4, -1);
        refused(BAD, "letter", 0, 5, -1);
        refused(NOTHING, "letter", 6, 0, 0);
        refused(NOTHING, "letter", 6, 99, 99);
        limits("spelled", new long[] {0, 0}, 0, 0, 11);
        refused(NOTHING, "spelled", 6, 0);
        refused(NOTHING, "spelled", 6, -1);
        limits("differ", new long[] {0, 11}, 0, 0, 11);
        limits("differ", new long[] {0, 11}, 1, 0, 11);
        refused(NOTHING, "differ", 6, 0);
        refused(NOTHING, "differ", 0, 6);
        refused(BAD, "differ", 6, 12);
        refused(BAD, "differ", -1, 6);
    }

    private static void weaving() {
        past = Past.BASE;
        long[] behind = {5, 0, 1};
        for (int i = 0; i < 3; i++) limits("behind", behind, i, 0, 11);
        refused(NOTHING, "behind", 5, 6, 1);
        refused(NOTHING, "behind", 5, 0, 6);
        refused(NOTHING, "behind", 5, 6, 6);
        refused(BAD, "behind", 12, 6, 1);
        refused(BAD, "behind", 5, 6, 12);
        refused(BAD, "behind", 5, -1, 6);
        refused(STUCK, "behind", 5, 0, 3);
        refused(STUCK, "behind", 5, 3, 0);
        long[] over = {5, 0, 1, 0};
        for (int i = 0; i < 3; i++) limits("over", over, i, 0, 11);
        limits("over", over, 3, 0, 1);
        refused(NOTHING, "over", 5, 6, 1, 0);
        refused(NOTHING, "over", 5, 0, 6, 0);
        refused(BAD, "over", 5, 6, 6, 2);
        refused(BAD, "over", 12, 6, 0, 0);
        refused(BAD, "over", 5, 0, 3, -1);
        refused(STUCK, "over", 5, 0, 3, 0);
        refused(STUCK, "over", 5, 3, 0, 1);
        long[] turned = {5, 0, 0};
        limits("turned", turned, 0, 0, 11);
        limits("turned", turned, 1, 0, 11);
        limits("turned", turned, 2, 0, 3);
        refused(NOTHING, "turned", 5, 6, 0);
        refused(BAD, "turned", 5, 6, 4);
        refused(BAD, "turned", 12, 6, 0);
        refused(STUCK, "turned", 5, 3, 0);
        refused(STUCK, "turned", 5, 0, 1);
        // It deletes 401 letters, so what turns it would be FULL, too.
        refused(STUCK, "turned", 5, 9, 0);
    }

    private static void doing() {
        past = Past.BASE;
        limits("does", new long[] {0, 0}, 0, 0, 3);
        limits("does", new long[] {0, 0}, 1, 0, 11);
        refused(NOTHING, "does", 0, 6);
        refused(BAD, "does", 4, 6);
        refused(BAD, "does", 0, 12);
        refused(STUCK, "does", 0, 3);
        // It makes 61 letters of 60.
        refused(STUCK, "does", 0, 4);
        long[] insert = {0, 0, 0, 0};
        limits("insert", insert, 0, 0, 3);
        limits("insert", insert, 1, 0, 6);
        limits("insert", insert, 2, 0, 25);
        limits("insert", insert, 3, 0, 15);
        long[] cut = {0, 0, 1};
        limits("cut", cut, 0, 0, 3);
        limits("cut", cut, 1, 0, 5);
        limits("cut", cut, 2, 1, 6);
        accepted("cut", 0, 4, 2);
        refused(BAD, "cut", 0, 5, 2);
        refused(BAD, "cut", 0, 1, MOST);
        refused(BAD, "cut", 0, 6, 0);
        refused(BAD, "cut", 2, 0, 1);
        long[] mark = {0, 0, 1, 0, 0};
        limits("mark", mark, 0, 0, 3);
        limits("mark", mark, 1, 0, 5);
        limits("mark", mark, 2, 1, 6);
        limits("mark", mark, 3, 0, 3);
        limits("mark", mark, 4, 0, 1);
        accepted("mark", 0, 4, 2, 3, 1);
        refused(BAD, "mark", 0, 5, 2, 3, 1);
        refused(BAD, "mark", 0, 1, MOST, 0, 0);
        refused(BAD, "mark", 2, 0, 1, 0, 1);
        limits("undo", new long[] {0}, 0, 0, 3);
        refused(STUCK, "undo", 2);
        limits("redo", new long[] {0}, 0, 0, 3);
        refused(STUCK, "redo", 1);
        long[] point = {0, 0, 0};
        limits("point", point, 0, 0, 3);
        limits("point", point, 1, 0, 6);
        limits("point", point, 2, 0, 6);
        accepted("point", 2, 0, 0);
        refused(BAD, "point", 2, 1, 0);
        refused(BAD, "point", 2, 0, 1);
    }

    private static void servingAndHearing() {
        past = Past.BASE;
        limits("serve", new long[] {0}, 0, 0, 3);
        refused(STUCK, "serve", 1);
        refused(STUCK, "serve", 2);
        limits("hear", new long[] {0}, 0, 0, 3);
        refused(STUCK, "hear", 1);
        past = Past.BASE;
        refused(STUCK, "back");
        past = Past.KEPT;
        accepted("back");
    }

    private static void asking() {
        past = Past.BASE;
        limits("cursor", new long[] {0, 0}, 0, 0, 3);
        limits("cursor", new long[] {0, 0}, 1, 0, 1);
        limits("clientOf", new long[] {0, 0}, 0, 0, 3);
        limits("clientOf", new long[] {0, 0}, 1, 0, 6);
        long[] takes = {5, 0, 0};
        limits("takes", takes, 0, 0, 11);
        limits("takes", takes, 1, 0, 3);
        limits("takes", takes, 2, 0, 3);
        refused(STUCK, "takes", 5, 1, 0);
        refused(STUCK, "takes", 5, 1, 1);
        refused(STUCK, "takes", 5, 2, 2);
        refused(STUCK, "takes", 5, 1, 3);
        refused(BAD, "takes", 12, 1, 0);
        refused(BAD, "takes", 5, 1, 4);
        limits("revision", new long[] {5, 1}, 0, 0, 11);
        limits("revision", new long[] {5, 1}, 1, 1, 3);
        limits("length", new long[] {0}, 0, 0, 4);
        long[] text = {0, 0, 0};
        limits("text", text, 0, 0, 4);
        limits("text", text, 1, 0, 5);
        limits("text", text, 2, 0, 1);
        refused(BAD, "text", 2, 0, 0);
        limits("apart", new long[] {0, 0}, 0, 0, 4);
        limits("apart", new long[] {0, 0}, 1, 0, 4);
        limits("marked", new long[] {0, 0}, 0, 0, 4);
        limits("marked", new long[] {0, 0}, 1, 0, 4);
        long[] judge = {0, 0, 1};
        limits("judge", judge, 0, 0, 4);
        limits("judge", judge, 1, 0, 7, 2, 3, 5, 6);
        limits("judge", judge, 2, 0, 20);
        refused(OTHER, "judge", 0, 2, 1);
        refused(NOTHING, "judge", 0, 3, 1);
        refused(BAD, "judge", 5, 2, 1);
        refused(BAD, "judge", -1, 3, 1);
        refused(BAD, "judge", 0, 2, 21);
        refused(BAD, "judge", 0, 3, -1);
        accepted("judge", 0, 1, 2);
        refused(BAD, "judge", 0, 1, 3);
        accepted("judge", 0, 6, 0);
        refused(BAD, "judge", 0, 6, 1);
        limits("days", new long[] {1}, 0, 1, 60);
    }

    private static void full() {
        past = Past.SIXTY;
        refused(FULL, "insert", 0, 0, 0, 0);
        refused(FULL, "insert", 0, 60, 25, 15);
        refused(BAD, "insert", 0, 61, 0, 0);
        refused(BAD, "insert", 0, -1, 0, 0);
        refused(BAD, "insert", 0, 0, 26, 0);
        refused(BAD, "insert", 0, 0, 0, 16);
        refused(BAD, "insert", 4, 0, 0, 0);
        accepted("insert", 1, 59, 0, 0);
        accepted("does", 0, 1);
        refused(FULL, "does", 0, 4);
        accepted("does", 1, 5);
        refused(FULL, "does", 1, 6);
        accepted("does", 2, 7);
        refused(FULL, "does", 2, 8);
        past = Past.HISTORIES;
        refused(FULL, "undo", 1);
        accepted("undo", 2);
        refused(FULL, "redo", 3);
        accepted("redo", 0);
        past = Past.NINETY;
        refused(FULL, "serve", 0);
        refused(STUCK, "serve", 1);
        refused(STUCK, "serve", 2);
        refused(BAD, "serve", 4);
        refused(FULL, "meet");
        accepted("hear", 2);
        past = Past.LONG;
        accepted("turned", 9, 0, 0);
        refused(FULL, "turned", 9, 1, 0);
        refused(BAD, "turned", 12, 1, 0);
        refused(NOTHING, "turned", 9, 11, 0);
        refused(STUCK, "turned", 9, 1, 1);
        accepted("does", 0, 2);
        accepted("does", 0, 3);
        refused(FULL, "does", 0, 4);
        refused(FULL, "insert", 0, 0, 0, 0);
        refused(FULL, "undo", 1);
        accepted("over", 9, 5, 7, 0);
        refused(FULL, "over", 9, 6, 8, 0);
        refused(BAD, "over", 9, 6, 8, 2);
        past = Past.HUGE;
        accepted("behind", 9, 3, 3);
        refused(FULL, "behind", 9, 1, 3);
        refused(FULL, "behind", 9, 2, 1);
        refused(STUCK, "behind", 9, 1, 2);
        accepted("over", 9, 3, 3, 0);
        accepted("over", 9, 2, 1, 0);
        refused(FULL, "over", 9, 1, 2, 0);
        refused(FULL, "over", 9, 2, 2, 1);
        refused(STUCK, "over", 9, 2, 3, 0);
        accepted("turned", 9, 3, 0);
        refused(FULL, "turned", 9, 1, 1);
        refused(FULL, "turned", 9, 2, 1);
        refused(STUCK, "turned", 9, 1, 0);
        past = Past.MUCH;
        accepted("behind", 9, 0, 1);
        refused(FULL, "behind", 9, 0, 2);
    }

    /** The document refuses nothing here, whatever the numbers are. */
    private static void neverRefused() {
        past = Past.BASE;
        long[] numbers = {LEAST, -2, -1, 0, 7, 8, 12, 40, MOST};
        for (long n : numbers) {
            accepted("holds", n);
            accepted("seed", n);
            accepted("status", n);
            accepted("spelled", 0, n);
            for (long i : numbers) accepted("element", n, i);
        }
        accepted("wipe");
        accepted("image");
        accepted("meet");
        accepted("row", 3, 0, 0);
    }

    /** THE TAPE is empty behind edit() in any case; nothing else changes where it is refused. */
    private static void editEmptiesTheTape() {
        past = Past.BASE;
        for (long n : new long[] {-1, 12, LEAST, MOST}) refused(BAD, "edit", n);
        // The tape holds =5x: its fault is at place 2.
        refused(-302, "edit", 0);
        refused(-302, "edit", 11);
        past = Past.TAPE_FULL;
        refused(-302, "edit", 0);
        refused(BAD, "edit", 12);
    }

    /** It ends where a REVISION would be the 91st: what was served and heard ahead stays. */
    private static void meetKeepsWhatWasHeard() {
        EditsMeet x = made(Past.NINETY);
        Check.due("meet", x.meet(), FULL);
        Check.due("revisions", x.status(0), 90);
        Check.due("nothing more was heard", x.clientOf(2, 6), 90);
        Check.due("what is sent stays", x.clientOf(0, 1), 2);
        Check.due("not served", x.clientOf(0, 2), 0);
        Check.due("refusals", x.status(16), 1);
    }

    // ---------------------------------------------------------------- how it is told

    /** An argument's last numbers that may be and first that may not, the others being right. */
    private static void limits(String call, long[] args, int which, long low, long high, long... not) {
        for (long v : new long[] {low, high}) accepted(call, with(args, which, v));
        for (long v : new long[] {low - 1, high + 1, LEAST, MOST}) refused(BAD, call, with(args, which, v));
    }

    private static long[] with(long[] args, int which, long v) {
        long[] changed = args.clone();
        changed[which] = v;
        return changed;
    }

    private static void accepted(String call, long... args) {
        EditsMeet x = made(past);
        int[] ahead = refusals(x);
        long answer = ask(x, call, args);
        for (int why = 0; why < 5; why++) {
            Check.due(told(call, args) + " = " + answer + " in " + past + ": refusals", refusals(x)[why], ahead[why]);
        }
        boolean mayBeAny = call.equals("seed") || call.equals("element") || call.equals("status");
        Check.that(told(call, args) + " = " + answer + " in " + past, mayBeAny || answer >= -1);
    }

    private static void refused(int due, String call, long... args) {
        String told = told(call, args) + " in " + past;
        int why = due <= -300 ? BAD : due;
        for (int aspect = 0; aspect < ASPECTS; aspect++) {
            EditsMeet x = made(past);
            EditsMeet twin = made(past);
            if (call.equals("edit")) twin.wipe();
            Check.due(told, ask(x, call, args), due);
            int[] got = refusals(x);
            int[] want = refusals(twin);
            want[-2 - why]++;
            for (int w = 0; w < 5; w++) Check.due("refusals " + (-2 - w) + " behind " + told, got[w], want[w]);
            List<Long> all = look(x, aspect);
            List<Long> same = look(twin, aspect);
            Check.that("nothing changes (" + aspect + ") by " + told, all.equals(same));
        }
    }

    private static String told(String call, long[] args) {
        StringBuilder s = new StringBuilder(call).append('(');
        for (int i = 0; i < args.length; i++) s.append(i == 0 ? "" : ", ").append(args[i]);
        return s.append(')').toString();
    }

    private static int[] refusals(EditsMeet x) {
        int[] counts = new int[5];
        for (int w = 0; w < 5; w++) counts[w] = x.status(12 + w);
        return counts;
    }

    private static long ask(EditsMeet x, String call, long... args) {
        try {
            for (Method method : EditsMeet.class.getDeclaredMethods()) {
                if (!method.getName().equals(call)) continue;
                Object[] given = new Object[args.length];
                Class<?>[] types = method.getParameterTypes();
                for (int i = 0; i < args.length; i++) {
                    given[i] = types[i] == long.class ? (Object) args[i] : (Object) (int) args[i];
                }
                return ((Number) method.invoke(x, given)).longValue();
            }
        } catch (ReflectiveOperationException thrown) {
            Check.that(told(call, args) + " throws " + thrown.getCause(), false);
        }
        return -999;
    }

    // ---------------------------------------------------------------- pasts

    private static void ed(EditsMeet x, int n, String spelled) {
        for (int i = 0; i < spelled.length(); i++) x.feed(spelled.charAt(i));
        x.edit(n);
    }

    private static String many(String s, int n) {
        StringBuilder all = new StringBuilder();
        for (int i = 0; i < n; i++) all.append(s);
        return all.toString();
    }

    private static EditsMeet made(Past kind) {
        EditsMeet x = new EditsMeet();
        switch (kind) {
            case TAPE_FULL: makeTapeFull(x); break;
            case SIXTY: makeSixty(x); break;
            case NINETY: makeNinety(x); break;
            case LONG: makeLong(x); break;
            case HISTORIES: makeHistories(x); break;
            case HUGE: makeHuge(x); break;
            case MUCH: makeMuch(x); break;
            default: makeBase(x);
        }
        if (kind == Past.KEPT) x.image();
        return x;
    }

    /**
     * Clients 0, 1 and 3 have 6 letters; 0 and 3 have something sent, waiting, to undo, to redo and to
     * hear; 1 has nothing sent and heard all; 2 has an empty text, something served, nothing to undo.
     */
    private static void makeBase(EditsMeet x) {
        ed(x, 1, "+abcdef");
        x.does(1, 1);
        x.serve(1);
        for (int c : new int[] {0, 1, 3}) x.hear(c);
        x.mark(1, 1, 3, 2, 1);
        x.serve(1);
        x.insert(2, 0, 25, 3);
        x.serve(2);
        x.undo(2);
        for (int c : new int[] {0, 3}) {
            x.mark(c, 0, 2, 0, 1);
            x.mark(c, 3, 2, 3, 1);
            x.insert(c, 4, c, 5);
            x.undo(c);
            x.point(c, 2, 5);
        }
        x.hear(1);
        x.hear(1);
        ed(x, 0, "=1+ab-2^2.3=1");
        ed(x, 11, "=1+ab-2^2.3=1");
        ed(x, 1, "=6");
        ed(x, 2, "-6+q");
        ed(x, 3, "+r");
        ed(x, 4, "=60+s");
        ed(x, 9, "-99-99-99-99-05");
        x.row(0, 2, 40);
        x.row(1, 2, 5);
        x.show(2, 0, 1);
        x.row(4, 3, 40);
        x.show(5, 0, 3);
        x.row(6, 0, 0);
        x.row(7, 2, 40);
        x.set(0, 3, 33);
        x.set(7, 39, -7);
        x.seed(77);
        x.feed('=');
        x.feed('5');
        x.feed('x');
    }

    private static void makeTapeFull(EditsMeet x) {
        x.insert(0, 0, 1, 2);
        x.takes(0, 0, 0);
        x.row(0, 0, 3);
        x.feed('=');
        x.feed('5');
        for (int k = 3; k <= 250; k++) x.feed('x');
    }

    /** Client 0 has 60 letters, 1 has 59, 2 and 3 have none. */
    private static void makeSixty(EditsMeet x) {
        ed(x, 0, "+" + many("a", 60));
        x.does(0, 0);
        ed(x, 2, "+" + many("b", 59));
        x.does(1, 2);
        ed(x, 1, "-1+c=59");
        ed(x, 4, "=60+s");
        ed(x, 5, "=59+s");
        ed(x, 6, "=59+st");
        ed(x, 7, "+" + many("c", 60));
        ed(x, 8, "+" + many("c", 61));
    }

    /** All have 41 letters; 1 and 2 would undo what deleted 20 and 19, 3 and 0 redo what inserted 20 and 19. */
    private static void makeHistories(EditsMeet x) {
        ed(x, 0, "+" + many("a", 60));
        x.does(0, 0);
        x.meet();
        x.cut(1, 0, 20);
        x.cut(2, 20, 19);
        x.meet();
        ed(x, 0, "=21+" + many("b", 20));
        x.does(3, 0);
        x.undo(3);
        x.does(0, 0);
        x.meet();
        ed(x, 0, "=41+" + many("c", 19));
        x.does(0, 0);
        x.undo(0);
        for (int c = 0; c < 4; c++) Check.due("length", x.length(c), 41);
    }

    private static void makeNinety(EditsMeet x) {
        ed(x, 0, "+abc");
        x.does(0, 0);
        x.serve(0);
        x.hear(0);
        for (int k = 1; k < 90; k++) {
            x.mark(0, 0, 1 + k % 3, k % 4, k / 4 % 2);
            x.serve(0);
            x.hear(0);
        }
        x.mark(0, 0, 1, 0, 1);
        x.mark(0, 1, 1, 0, 1);
    }

    /** All have BASE letters; edit 2 replaces them all. Each round makes the texts four times as long. */
    private static void grow(EditsMeet x, int rounds) {
        ed(x, 0, "+" + many("abcdef", 10));
        x.turned(1, 0, 0);
        x.behind(7, 1, 0);
        for (int c = 0; c < 4; c++) x.does(c, 0);
        for (int c = 0; c < 4; c++) x.does(c, 7);
        x.meet();
        for (int round = 0; round < rounds; round++) {
            for (int c = 0; c < 4; c++) x.takes(3 + c, c, 2);
            x.mark(0, 0, 1, 0, 1);
            for (int c = 0; c < 4; c++) x.does(0, 3 + c);
            x.takes(7, 0, 1);
            for (int c = 0; c < 4; c++) x.does(c, 7);
            x.meet();
        }
    }

    /** Clients 0 and 3 have 960 letters, 1 has deleted 400 of them, 2 401. */
    private static void makeLong(EditsMeet x) {
        grow(x, 1);
        ed(x, 0, many("-99", 4) + "-04" + many("=99", 5) + "=65");
        ed(x, 1, many("-99", 4) + "-05" + many("=99", 5) + "=64");
        ed(x, 2, many("=99", 9) + "-69+c");
        ed(x, 3, many("=99", 9) + "=68-1+c");
        ed(x, 4, many("=99", 9) + "=69+c");
        x.cut(1, 0, 400);
        x.cut(2, 0, 401);
        x.takes(5, 1, 2);
        x.takes(6, 2, 2);
        ed(x, 7, many("=99", 5) + "=65");
        ed(x, 8, many("=99", 5) + "=64");
    }

    /** Client 0 has 9999 letters, the others 10000; 1 makes 9999 of 10000, 2 10000 of 10000, 3 9999 of 9999. */
    private static void makeHuge(EditsMeet x) {
        grow(x, 3);
        x.cut(0, 0, 5360);
        x.meet();
        x.cut(0, 0, 1);
        x.mark(0, 0, 1, 2, 1);
        x.mark(1, 0, 1, 2, 1);
        x.takes(1, 0, 0);
        x.takes(2, 1, 0);
        x.takes(3, 0, 1);
        for (int e = 1; e <= 3; e++) Check.due("lengths", x.of(e, 1) + x.of(e, 2), e == 1 ? 19999 : e == 2 ? 20000 : 19998);
    }

    /** 0 and 1 insert 200 letters, 0 in an empty text, 2 one more. */
    private static void makeMuch(EditsMeet x) {
        ed(x, 0, "+" + many("v", 200));
        ed(x, 1, "+" + many("w", 200) + many("=99", 2) + "=2");
        ed(x, 2, "+" + many("w", 201) + many("=99", 2) + "=2");
    }

    // ---------------------------------------------------------------- all that an object holds

    private static List<Long> look(EditsMeet x, int aspect) {
        List<Long> all = new ArrayList<>();
        switch (aspect) {
            case 0: lookAtTexts(x, all); break;
            case 1: lookAtEdits(x, all); break;
            case 2: lookAtShelves(x, all); break;
            case 3: lookAtWhatClientsHold(x, all); break;
            case 4: lookAtHistories(x, all); break;
            default: lookAtTheRest(x, all);
        }
        return all;
    }

    private static void lookAtTexts(EditsMeet x, List<Long> all) {
        for (int c = 0; c < 5; c++) {
            all.add((long) x.length(c));
            for (int p = 0; p < Math.min(x.length(c), 8); p++) {
                all.add((long) x.text(c, p, 0));
                all.add((long) x.text(c, p, 1));
            }
        }
        for (int w = 0; w < 8; w++) all.add((long) x.status(w));
        for (int c = 0; c < 4; c++) {
            all.add((long) x.cursor(c, 0));
            all.add((long) x.cursor(c, 1));
            for (int w = 0; w < 7; w++) all.add((long) x.clientOf(c, w));
        }
    }

    private static void lookAtEdits(EditsMeet x, List<Long> all) {
        for (int e = 0; e < 12; e++) lookAtEdit(x, e, all);
    }

    private static void lookAtEdit(EditsMeet x, int e, List<Long> all) {
        for (int w = 0; w < 6; w++) all.add((long) x.of(e, w));
        for (int i = 0; i < Math.min(x.of(e, 0), 6); i++) {
            for (int w = 0; w < 4; w++) all.add((long) x.part(e, i, w));
            all.add((long) x.letter(e, i, 0));
            all.add((long) x.letter(e, i, 1));
        }
    }

    private static void lookAtShelves(EditsMeet x, List<Long> all) {
        for (int s = 0; s < 8; s++) {
            all.add((long) x.holds(s));
            for (int kind = 0; kind < 6; kind++) all.add((long) x.says(s, kind));
            for (int i = 0; i < 40; i += i < 4 ? 1 : 5) all.add(x.element(s, i));
            all.add(x.element(s, 39));
        }
    }

    private static void lookAtWhatClientsHold(EditsMeet x, List<Long> all) {
        for (int c = 0; c < 4; c++) {
            for (int w = 0; w < 4; w++) {
                all.add((long) x.takes(10, c, w));
                lookAtEdit(x, 10, all);
            }
        }
        for (int n = x.status(0); n > Math.max(0, x.status(0) - 4); n--) {
            all.add((long) x.revision(10, n));
            lookAtEdit(x, 10, all);
        }
    }

    private static void lookAtHistories(EditsMeet x, List<Long> all) {
        for (int c = 0; c < 4; c++) {
            for (int k = 0; k < 21; k++) all.add((long) x.redo(c));
            for (int k = 0; k < 21; k++) {
                all.add((long) x.undo(c));
                all.add((long) x.length(c));
            }
            all.add((long) x.text(c, 0, 0));
        }
        all.add((long) x.meet());
        for (int c = 0; c < 5; c++) all.add((long) x.length(c));
    }

    private static void lookAtTheRest(EditsMeet x, List<Long> all) {
        all.add((long) x.edit(10));
        lookAtEdit(x, 10, all);
        all.add((long) x.days(60));
        all.add((long) x.status(6));
        lookAtTexts(x, all);
        all.add((long) x.back());
        lookAtTexts(x, all);
    }
}

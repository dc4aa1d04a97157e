import java.util.Random;

/** Runs of calls by fixed draws: EditsMeet and the slow Model must answer every call alike. */
public final class ModelTest {
    private static final int RUNS = 1500;
    private static final int CALLS = 512;

    private final Random random;
    private final EditsMeet real = new EditsMeet();
    private final Model model = new Model();
    private final int mood;
    private final StringBuilder story = new StringBuilder();
    private int calls = 0;
    private boolean isAlike = true;

    private ModelTest(long seed) {
        random = new Random(seed);
        mood = (int) (seed % 6);
    }

    public static void main(String[] args) {
        for (int run = 0; run < RUNS; run++) {
            ModelTest test = new ModelTest(run);
            test.go();
            Check.that("run " + run, test.isAlike);
        }
        Check.end();
    }

    private void go() {
        while (calls < CALLS && isAlike) {
            int kind = random.nextInt(100);
            if (mood == 0) kind = kind < 60 ? random.nextInt(30) : kind;
            if (mood == 1) kind = kind < 60 ? 30 + random.nextInt(50) : kind;
            if (mood == 2) kind = kind < 70 ? 45 + random.nextInt(30) : kind;
            if (mood == 3) kind = kind < 30 ? 98 : kind;
            if (mood == 4) kind = kind < 50 ? 86 + random.nextInt(12) : kind;
            step(kind);
        }
    }

    private int below(int n) {
        return random.nextInt(Math.max(1, n));
    }

    /** Mostly one that may be, seldom one that may not. */
    private int upTo(int most) {
        int draw = below(40);
        if (draw == 0) return -1;
        if (draw == 1) return most + 1;
        if (draw == 2 && below(4) == 0) return below(2) == 0 ? Integer.MIN_VALUE : Integer.MAX_VALUE;
        return below(most + 1);
    }

    private int size(int client) {
        return client >= 0 && client < 4 ? model.clients[client].text.size() : 3;
    }

    /** In some moods few clients and places, so that edits meet at one place. */
    private int client() {
        return mood == 2 ? upTo(3) & 1 : upTo(3);
    }

    private int place(int client, int most) {
        return below(3) == 0 ? Math.min(below(3), Math.max(most, 0)) : upTo(most);
    }

    private void step(int kind) {
        if (kind < 10) feedEdit();
        else if (kind < 30) algebra(kind);
        else if (kind < 45) write(kind);
        else if (kind < 80) meetings(kind);
        else if (kind < 86) asks();
        else if (kind < 96) shelves(kind);
        else late(kind);
    }

    private void feedEdit() {
        StringBuilder s = new StringBuilder();
        int n = mood == 5 ? below(9) : below(5);
        int left = size(below(4));
        for (int k = 0; k < n; k++) {
            int sort = below(5);
            int over = 1 + below(Math.min(Math.max(left, 1), below(3) == 0 ? 30 : 4));
            if (sort == 0) {
                s.append('+');
                for (int i = 1 + below(mood == 5 ? 30 : 4); i > 0; i--) s.append((char) ('a' + below(26)));
                continue;
            }
            s.append("=-^_".charAt(sort - 1));
            if (over < 10 && below(6) == 0) s.append('0');
            s.append(over);
            if (sort >= 3) s.append('.').append(below(12) == 0 ? "0" : "").append(1 + below(15));
            left -= over;
        }
        for (; left > 0; left -= 99) s.append('=').append(Math.min(left, 99));
        if (below(8) == 0 && s.length() > 0) {
            int at = below(s.length());
            char[] odd = {'+', '=', '-', '^', '_', '.', '0', '1', '9', 'a', 'z', '{', '`', ' ', 0, 255, '/', ':'};
            if (below(3) == 0) s.setLength(at);
            else if (below(2) == 0) s.setCharAt(at, odd[below(odd.length)]);
            else s.insert(at, odd[below(odd.length)]);
        }
        for (int i = 0; i < s.length(); i++) feed(s.charAt(i));
        int e = upTo(11);
        told("edit(" + e + ") of " + s, real.edit(e), model.edit(e));
        if (e < 0 || e > 11) return;
        int c = below(4);
        if (below(2) == 0) told("does(" + c + ", " + e + ")", real.does(c, e), model.does(c, e));
    }

    /** Not told one by one, since edits are long. */
    private void feed(int b) {
        calls++;
        int got = real.feed(b);
        int want = model.feed(b);
        if (got != want) told("feed(" + b + ")", got, want);
    }

    private void algebra(int kind) {
        int e = upTo(11), a = upTo(11), b = upTo(11), c = upTo(3), f = upTo(1), w = upTo(6);
        switch (kind) {
            case 10, 11, 12: told("behind(" + e + ", " + a + ", " + b + ")", real.behind(e, a, b), model.behind(e, a, b)); break;
            case 13, 14, 15, 16: told("over(" + e + ", " + a + ", " + b + ", " + f + ")", real.over(e, a, b, f), model.over(e, a, b, f)); break;
            case 17, 18: told("turned(" + e + ", " + a + ", " + c + ")", real.turned(e, a, c), model.turned(e, a, c)); break;
            case 19: told("differ(" + a + ", " + b + ")", real.differ(a, b), model.differ(a, b)); break;
            case 20, 21: told("does(" + c + ", " + e + ")", real.does(c, e), model.does(c, e)); break;
            case 22: told("of(" + e + ", " + w + ")", real.of(e, w), model.of(e, w)); break;
            case 23: told("takes(" + e + ", " + c + ", " + f + ")", real.takes(e, c, f), model.takes(e, c, f)); break;
            case 24: told("takes(" + e + ", " + c + ", 2)", real.takes(e, c, 2), model.takes(e, c, 2)); break;
            case 25: told("takes(" + e + ", " + c + ", 3)", real.takes(e, c, 3), model.takes(e, c, 3)); break;
            case 26: {
                int n = upTo(model.revisions.size() + 1);
                told("revision(" + e + ", " + n + ")", real.revision(e, n), model.revision(e, n));
                break;
            }
            default: spell(a, w);
        }
    }

    private void spell(int a, int w) {
        int parts = a >= 0 && a < 12 && model.edits[a] != null ? model.edits[a].parts().size() : 3;
        int i = upTo(parts), k = upTo(3);
        told("part(" + a + ", " + i + ", " + w + ")", real.part(a, i, w), model.part(a, i, w));
        told("letter(" + a + ", " + i + ", " + k + ")", real.letter(a, i, k), model.letter(a, i, k));
        int to = 12 + below(10);
        for (int at = -1; at < to && isAlike; at++) {
            told("spelled(" + a + ", " + at + ")", real.spelled(a, at), model.spelled(a, at));
        }
    }

    private void write(int kind) {
        int c = client();
        int most = size(c);
        if (kind < 37) {
            int p = place(c, most), l = upTo(25), m = below(2) == 0 ? 0 : upTo(15);
            told("insert(" + c + ", " + p + ", " + l + ", " + m + ")", real.insert(c, p, l, m), model.insert(c, p, l, m));
        } else if (kind < 40) {
            int p = place(c, most - 1), n = below(10) == 0 ? upTo(60) : upTo(Math.max(1, Math.min(4, most - p)));
            told("cut(" + c + ", " + p + ", " + n + ")", real.cut(c, p, n), model.cut(c, p, n));
        } else if (kind < 43) {
            int p = place(c, most - 1), n = upTo(Math.max(1, most - p)), b = upTo(3), is = upTo(1);
            told("mark(" + c + ", " + p + ", " + n + ", " + b + ", " + is + ")", real.mark(c, p, n, b, is), model.mark(c, p, n, b, is));
        } else {
            int p = place(c, most), o = upTo(most);
            told("point(" + c + ", " + p + ", " + o + ")", real.point(c, p, o), model.point(c, p, o));
        }
    }

    private void meetings(int kind) {
        int c = client();
        if (kind < 53) told("serve(" + c + ")", real.serve(c), model.serve(c));
        else if (kind < 62) told("hear(" + c + ")", real.hear(c), model.hear(c));
        else if (kind < 67) told("undo(" + c + ")", real.undo(c), model.undo(c));
        else if (kind < 71) told("redo(" + c + ")", real.redo(c), model.redo(c));
        else if (kind < 72 && below(4) == 0) told("meet()", real.meet(), model.meet());
        else write(30 + below(15));
    }

    private void asks() {
        int c = upTo(4), o = upTo(4), b = upTo(4), w = upTo(6);
        int p = upTo(Math.max(0, size(c) - 1)), t = upTo(1);
        told("length(" + c + ")", real.length(c), model.length(c));
        told("text(" + c + ", " + p + ", " + t + ")", real.text(c, p, t), model.text(c, p, t));
        told("apart(" + c + ", " + o + ")", real.apart(c, o), model.apart(c, o));
        told("marked(" + c + ", " + b + ")", real.marked(c, b), model.marked(c, b));
        told("cursor(" + c + ", " + t + ")", real.cursor(c, t), model.cursor(c, t));
        told("clientOf(" + c + ", " + w + ")", real.clientOf(c, w), model.clientOf(c, w));
        int s = below(20);
        told("status(" + s + ")", real.status(s), model.status(s));
    }

    private void shelves(int kind) {
        int s = upTo(mood == 4 ? 2 : 7), q = upTo(mood == 4 ? 2 : 7), i = upTo(12), j = upTo(12), n = upTo(8), e = upTo(11), c = upTo(4);
        long v = below(3) == 0 ? random.nextLong() : below(20);
        int sort = upTo(4), k = upTo(5);
        switch (kind) {
            case 86: {
                int size = below(3) == 0 ? upTo(40) : below(14);
                told("row(" + s + ", " + sort + ", " + size + ")", real.row(s, sort, size), model.row(s, sort, size));
                break;
            }
            case 87, 88: told("set(" + s + ", " + i + ", " + v + ")", real.set(s, i, v), model.set(s, i, v)); break;
            case 89: told("copy(" + s + ", " + q + ", " + i + ", " + j + ", " + n + ")", real.copy(s, q, i, j, n), model.copy(s, q, i, j, n)); break;
            case 90: told("element(" + s + ", " + i + ")", real.element(s, i), model.element(s, i)); break;
            case 91: told("holds(" + s + ")", real.holds(s), model.holds(s)); break;
            case 92: {
                int p = upTo(3), shown = below(10) == 0 ? -1 : e;
                told("show(" + s + ", " + shown + ", " + p + ")", real.show(s, shown, p), model.show(s, shown, p));
                break;
            }
            case 93: told("says(" + s + ", " + k + ")", real.says(s, k), model.says(s, k)); break;
            case 94: tellText(c, s, below(8)); break;
            default: told("judge(" + c + ", " + s + ", " + n + ")", real.judge(c, s, n), model.judge(c, s, n));
        }
    }

    /** A row that tells a client's text, or nearly. */
    private void tellText(int c, int s, int n) {
        told("row(" + s + ", 2, " + 2 * n + ")", real.row(s, 2, 2 * n), model.row(s, 2, 2 * n));
        for (int i = 0; i < n; i++) {
            int letter = Math.max(0, model.text(c, i, 0)), marks = Math.max(0, model.text(c, i, 1));
            if (below(12) == 0) marks ^= 1;
            if (below(12) == 0) letter++;
            told("set(" + s + ", " + 2 * i + ", " + letter + ")", real.set(s, 2 * i, letter), model.set(s, 2 * i, letter));
            told("set(" + s + ", " + (2 * i + 1) + ", " + marks + ")", real.set(s, 2 * i + 1, marks), model.set(s, 2 * i + 1, marks));
            real.text(c, i, 0);
            real.text(c, i, 1);
        }
        told("judge(" + c + ", " + s + ", " + n + ")", real.judge(c, s, n), model.judge(c, s, n));
    }

    private void late(int kind) {
        if (kind == 98) {
            int n = upTo(60);
            told("days(" + n + ")", real.days(n), model.days(n));
        } else if (kind == 97) {
            int draw = below(4);
            if (draw == 0) told("image()", real.image(), model.image());
            else if (draw == 1) told("back()", real.back(), model.back());
            else if (draw == 2) {
                int v = random.nextInt();
                told("seed(" + v + ")", real.seed(v), model.seed(v));
            } else told("meet()", real.meet(), model.meet());
        } else {
            int b = upTo(255);
            if (below(3) == 0) told("wipe()", real.wipe(), model.wipe());
            else told("feed(" + b + ")", real.feed(b), model.feed(b));
        }
        compareAll();
    }

    private void compareAll() {
        for (int w = 0; w < 18; w++) compare("status " + w, real.status(w), model.status(w));
        for (int c = 0; c < 5; c++) {
            int n = model.length(c);
            compare("length of " + c, real.length(c), n);
            for (int p = 0; p < n; p++) {
                compare("letter " + p + " of " + c, real.text(c, p, 0), model.text(c, p, 0));
                compare("marks " + p + " of " + c, real.text(c, p, 1), model.text(c, p, 1));
            }
        }
        for (int c = 0; c < 4; c++) {
            for (int w = 0; w < 7; w++) compare("clientOf " + c + " " + w, real.clientOf(c, w), model.clientOf(c, w));
            for (int w = 0; w < 2; w++) compare("cursor " + c + " " + w, real.cursor(c, w), model.cursor(c, w));
        }
    }

    private void compare(String what, long got, long want) {
        if (got != want && isAlike) {
            isAlike = false;
            System.out.println(story + what + ": " + got + ", due is " + want);
        }
    }

    private void told(String call, long got, long want) {
        calls++;
        if (!isAlike) return;
        story.append(call).append(" = ").append(want).append('\n');
        if (got != want) {
            isAlike = false;
            System.out.println(story + "  but answered " + got);
        }
    }
}

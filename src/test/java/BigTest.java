import java.lang.reflect.Method;
import java.util.ArrayList;
import java.util.HashMap;
import java.util.List;
import java.util.Map;

/**
 * A text and edits that are too big to be nodes: four patterns of marks, of 268, 267 and 266 letters, laid over
 * one another in a text of millions, so that hardly any stretch of it is like another. What is due is reckoned
 * from the marks that the patterns had before, letter by letter.
 */
public final class BigTest {
    /** What was told as a fault: an edit that turns marks alone was refused with FULL. */
    private static final String TOLD =
        "days(60); days(60); days(60); days(60); days(60); days(60); days(60); days(60); days(60); "
        + "days(60); days(60); days(60); meet(); image(); cut(0,0,67); takes(0,0,2); takes(1,0,0); "
        + "behind(2,1,0); back(); does(0,2); does(1,2); does(2,2); does(3,2); meet(); mark(0,165,2,3,1); "
        + "mark(0,24,1,0,1); mark(0,187,5,0,1); mark(0,259,2,0,1); mark(0,44,4,3,1); mark(0,35,2,0,1); "
        + "mark(0,217,1,0,1); mark(0,114,5,0,1); mark(0,203,1,1,1); mark(0,23,5,1,1); mark(0,148,4,1,1); "
        + "mark(0,60,5,2,1); mark(0,92,1,1,1); mark(0,190,1,0,1); mark(0,30,5,1,1); mark(0,254,5,3,1); "
        + "mark(0,160,4,3,1); mark(0,185,3,1,1); mark(0,92,2,0,1); mark(0,153,5,3,1); mark(0,175,4,2,1); "
        + "mark(0,37,1,3,1); mark(0,84,3,1,1); mark(0,250,4,0,1); mark(0,39,5,2,1); mark(0,174,3,3,1); "
        + "mark(0,233,1,0,1); mark(0,138,4,0,1); mark(0,31,3,3,1); mark(0,145,4,2,1); mark(0,11,4,2,1); "
        + "mark(0,86,5,0,1); mark(0,252,1,1,1); mark(0,147,2,1,1); mark(0,203,4,3,1); mark(0,41,2,3,1); "
        + "mark(0,205,5,2,1); mark(0,70,4,2,1); mark(0,212,3,3,1); mark(0,118,2,0,1); mark(0,90,2,1,1); "
        + "mark(0,119,1,3,1); mark(0,93,3,2,1); mark(0,2,2,3,1); mark(0,189,5,2,1); mark(0,64,5,0,1); "
        + "mark(0,233,5,3,1); mark(0,203,4,3,1); mark(0,53,4,3,1); mark(0,31,2,0,1); meet(); image(); "
        + "cut(0,0,268); takes(0,0,2); takes(1,0,0); behind(2,1,0); back(); does(0,2); does(1,2); "
        + "does(2,2); does(3,2); meet(); takes(3,0,2); takes(4,1,2); takes(5,2,2); takes(6,3,2); "
        + "mark(0,0,1,0,1); does(0,3); does(0,4); does(0,5); does(0,6); takes(7,0,1); does(0,7); "
        + "does(1,7); does(2,7); does(3,7); meet(); takes(3,0,2); takes(4,1,2); takes(5,2,2); "
        + "takes(6,3,2); mark(0,0,1,0,1); does(0,3); does(0,4); does(0,5); does(0,6); takes(7,0,1); "
        + "does(0,7); does(1,7); does(2,7); does(3,7); meet(); takes(3,0,2); takes(4,1,2); takes(5,2,2); "
        + "takes(6,3,2); mark(0,0,1,0,1); does(0,3); does(0,4); does(0,5); does(0,6); takes(7,0,1); "
        + "does(0,7); does(1,7); does(2,7); does(3,7); meet(); takes(3,0,2); takes(4,1,2); takes(5,2,2); "
        + "takes(6,3,2); mark(0,0,1,0,1); does(0,3); does(0,4); does(0,5); does(0,6); takes(7,0,1); "
        + "does(0,7); does(1,7); does(2,7); does(3,7); meet(); takes(3,0,2); takes(4,1,2); takes(5,2,2); "
        + "takes(6,3,2); mark(0,0,1,0,1); does(0,3); does(0,4); does(0,5); does(0,6); takes(7,0,1); "
        + "does(0,7); does(1,7); does(2,7); does(3,7); meet(); takes(3,0,2); takes(4,1,2); takes(5,2,2); "
        + "takes(6,3,2); mark(0,0,1,0,1); does(0,3); does(0,4); does(0,5); does(0,6); takes(7,0,1); "
        + "does(0,7); does(1,7); does(2,7); does(3,7); meet(); mark(0,0,4390912,2,1); takes(10,0,2); "
        + "mark(0,0,4390912,3,1); takes(11,0,2); back(); cut(0,0,1); meet(); image(); cut(0,0,267); "
        + "takes(0,0,2); takes(1,0,0); behind(2,1,0); back(); does(0,2); does(1,2); does(2,2); does(3,2); "
        + "meet(); takes(3,0,2); takes(4,1,2); takes(5,2,2); takes(6,3,2); mark(0,0,1,0,1); does(0,3); "
        + "does(0,4); does(0,5); does(0,6); takes(7,0,1); does(0,7); does(1,7); does(2,7); does(3,7); "
        + "meet(); takes(3,0,2); takes(4,1,2); takes(5,2,2); takes(6,3,2); mark(0,0,1,0,1); does(0,3); "
        + "does(0,4); does(0,5); does(0,6); takes(7,0,1); does(0,7); does(1,7); does(2,7); does(3,7); "
        + "meet(); takes(3,0,2); takes(4,1,2); takes(5,2,2); takes(6,3,2); mark(0,0,1,0,1); does(0,3); "
        + "does(0,4); does(0,5); does(0,6); takes(7,0,1); does(0,7); does(1,7); does(2,7); does(3,7); "
        + "meet(); takes(3,0,2); takes(4,1,2); takes(5,2,2); takes(6,3,2); mark(0,0,1,0,1); does(0,3); "
        + "does(0,4); does(0,5); does(0,6); takes(7,0,1); does(0,7); does(1,7); does(2,7); does(3,7); "
        + "meet(); takes(3,0,2); takes(4,1,2); takes(5,2,2); takes(6,3,2); mark(0,0,1,0,1); does(0,3); "
        + "does(0,4); does(0,5); does(0,6); takes(7,0,1); does(0,7); does(1,7); does(2,7); does(3,7); "
        + "meet(); takes(3,0,2); takes(4,1,2); takes(5,2,2); takes(6,3,2); mark(0,0,1,0,1); does(0,3); "
        + "does(0,4); does(0,5); does(0,6); takes(7,0,1); does(0,7); does(1,7); does(2,7); does(3,7); "
        + "meet(); takes(3,0,2); takes(4,1,2); takes(5,2,2); takes(6,3,2); mark(0,0,1,0,1); does(0,3); "
        + "does(0,4); does(0,5); does(0,6); takes(7,0,1); does(0,7); does(1,7); does(2,7); does(3,7); "
        + "meet(); cut(0,4390912,13107200); meet(); mark(0,0,4390912,0,1); takes(8,0,2); "
        + "mark(0,0,4390912,1,1); takes(9,0,2); back(); cut(0,0,1); meet(); image(); cut(0,0,266); "
        + "takes(0,0,2); takes(1,0,0); behind(2,1,0); back(); does(0,2); does(1,2); does(2,2); does(3,2); "
        + "meet(); takes(3,0,2); takes(4,1,2); takes(5,2,2); takes(6,3,2); mark(0,0,1,0,1); does(0,3); "
        + "does(0,4); does(0,5); does(0,6); takes(7,0,1); does(0,7); does(1,7); does(2,7); does(3,7); "
        + "meet(); takes(3,0,2); takes(4,1,2); takes(5,2,2); takes(6,3,2); mark(0,0,1,0,1); does(0,3); "
        + "does(0,4); does(0,5); does(0,6); takes(7,0,1); does(0,7); does(1,7); does(2,7); does(3,7); "
        + "meet(); takes(3,0,2); takes(4,1,2); takes(5,2,2); takes(6,3,2); mark(0,0,1,0,1); does(0,3); "
        + "does(0,4); does(0,5); does(0,6); takes(7,0,1); does(0,7); does(1,7); does(2,7); does(3,7); "
        + "meet(); takes(3,0,2); takes(4,1,2); takes(5,2,2); takes(6,3,2); mark(0,0,1,0,1); does(0,3); "
        + "does(0,4); does(0,5); does(0,6); takes(7,0,1); does(0,7); does(1,7); does(2,7); does(3,7); "
        + "meet(); takes(3,0,2); takes(4,1,2); takes(5,2,2); takes(6,3,2); mark(0,0,1,0,1); does(0,3); "
        + "does(0,4); does(0,5); does(0,6); takes(7,0,1); does(0,7); does(1,7); does(2,7); does(3,7); "
        + "meet(); takes(3,0,2); takes(4,1,2); takes(5,2,2); takes(6,3,2); mark(0,0,1,0,1); does(0,3); "
        + "does(0,4); does(0,5); does(0,6); takes(7,0,1); does(0,7); does(1,7); does(2,7); does(3,7); "
        + "meet(); takes(3,0,2); takes(4,1,2); takes(5,2,2); takes(6,3,2); mark(0,0,1,0,1); does(0,3); "
        + "does(0,4); does(0,5); does(0,6); takes(7,0,1); does(0,7); does(1,7); does(2,7); does(3,7); "
        + "meet(); cut(0,4390912,13041664); meet(); mark(0,0,4390912,0,1); mark(0,0,4390912,1,1); "
        + "mark(0,0,4390912,2,1); mark(0,0,4390912,3,1); does(0,8); does(0,10); does(0,9); of(11,1); "
        + "of(11,2); length(0); does(0,11); length(0); ";

    private static final Map<String, Method> METHODS = new HashMap<>();
    private static EditsMeet x;
    private static int n;
    /** The marks of the three patterns, over all of the text. */
    private static byte[][] patterns;
    private static byte[] letters;

    public static void main(String[] args) throws Exception {
        for (Method method : EditsMeet.class.getDeclaredMethods()) METHODS.put(method.getName(), method);
        List<String> told = patternsLaid(0);
        Check.due("calls", told.size(), 438);
        run(told);
        inText();
        undoneAndDone();
        metAgain();
        Check.end();
    }

    /** The calls that were told, with so many rounds more (or less) that make the text four times as long. */
    static List<String> patternsLaid(int rounds) {
        String[] told = TOLD.split("; *");
        int long0 = 4390912;
        int size = rounds < 0 ? long0 >> -2 * rounds : long0 << 2 * rounds;
        List<String> made = new ArrayList<>();
        for (int i = 0; i < told.length; i++) {
            int found = 0;
            for (int k = i; isRound(told, k); k += 15) found++;
            for (int k = 0; k < 15 * Math.max(found + rounds, 0) && found > 0; k++) made.add(told[i + k % 15]);
            i += 15 * found;
            String call = told[i].replace("4390912", "" + size);
            if (told[i].startsWith("cut(0,4390912,")) {
                int cut = Integer.parseInt(told[i].substring(14, told[i].length() - 1));
                call = "cut(0," + size + "," + (rounds < 0 ? cut >> -2 * rounds : cut << 2 * rounds) + ")";
            }
            made.add(call);
        }
        return made;
    }

    private static boolean isRound(String[] told, int i) {
        return i + 14 < told.length && told[i].equals("takes(3,0,2)") && told[i + 9].equals("takes(7,0,1)");
    }

    private static int ask(String call) throws Exception {
        int at = call.indexOf('(');
        String numbers = call.substring(at + 1, call.length() - 1);
        String[] words = numbers.isEmpty() ? new String[0] : numbers.split(",");
        Object[] values = new Object[words.length];
        for (int i = 0; i < words.length; i++) values[i] = Integer.parseInt(words[i].trim());
        return ((Number) METHODS.get(call.substring(0, at)).invoke(x, values)).intValue();
    }

    private static void due(String call, int want) throws Exception {
        Check.due(call, ask(call), want);
    }

    /** Runs all calls; the last eight have the answer that is due. */
    private static void run(List<String> told) throws Exception {
        x = new EditsMeet();
        patterns = new byte[3][];
        int found = 0;
        for (int i = 0; i < told.size() - 8; i++) {
            String call = told.get(i);
            boolean isWhole = call.startsWith("mark(0,0,") && call.length() > 16;
            if (isWhole && !told.get(i - 2).startsWith("mark(0,0,") && !told.get(i - 1).startsWith("mark(0,0,")) patterns[found++] = marks();
            Check.that(call, ask(call) >= 0);
        }
        n = patterns[2].length;
        letters = new byte[n];
        for (int p = 0; p < n; p++) letters[p] = (byte) x.text(0, p, 0);
        Check.due("patterns", found, 3);
        due("does(0,8)", n);
        due("does(0,10)", n);
        due("does(0,9)", n);
        due("of(11,1)", n);
        due("of(11,2)", n);
        due("length(0)", n);
        due("does(0,11)", n);
        due("length(0)", n);
    }

    private static byte[] marks() {
        byte[] found = new byte[x.length(0)];
        for (int p = 0; p < found.length; p++) found[p] = (byte) x.text(0, p, 1);
        return found;
    }

    /** The marks of a letter when the first so many of the four edits were done: bits 0 and 2 by the first two. */
    private static int due(int p, int done) {
        int all = 15;
        if (done > 0) all &= patterns[1][p] | ~1;
        if (done > 1) all &= patterns[0][p] | ~4;
        if (done > 2) all &= patterns[1][p] | ~2;
        if (done > 3) all &= patterns[0][p] | ~8;
        return all;
    }

    private static int letterAt(int p) {
        return letters[p];
    }

    private static void compare(int client, int done) {
        int unlike = 0;
        for (int k = 0; k < 400; k++) {
            int p = k < 100 ? k : k < 200 ? n - 1 - k + 100 : (int) (k * 104729L % n);
            if (x.text(client, p, 1) != due(p, done)) unlike++;
        }
        Check.due("letters of client " + client + " that are otherwise after " + done, unlike, 0);
    }

    /** How many letters haven't a mark. */
    private static int count(int done, int bit) {
        return count(0, done, bit);
    }

    private static int count(int start, int done, int bit) {
        int found = 0;
        for (int p = start; p < n; p++) if ((due(p, done) >> bit & 1) == 0) found++;
        return found;
    }

    /** Which letters have which marks; how many are turned, and what turns them back. */
    private static void inText() throws Exception {
        compare(0, 4);
        int[] marked = new int[5];
        for (int p = 0; p < n; p++) {
            int all = due(p, 4);
            int letter = 1 << letterAt(p);
            for (int bit = 0; bit < 4; bit++) if ((all >> bit & 1) == 1) marked[bit] |= letter;
            if (all == 0) marked[4] |= letter;
        }
        for (int bit = 0; bit < 5; bit++) due("marked(0," + bit + ")", marked[bit]);
        due("mark(0,0," + n + ",2,1)", count(4, 2));
        due("mark(0,7," + (n - 7) + ",2,0)", n - 7);
        due("undo(0)", 19);
        due("undo(0)", 18);
        compare(0, 4);
    }

    /** What turns the last of the four back: its parts, and how they are spelled. */
    private static void itsParts() throws Exception {
        List<Integer> ends = new ArrayList<>();
        for (int p = 1; p <= n; p++) if (p == n || (due(p, 4) & 8) != (due(p - 1, 4) & 8)) ends.add(p);
        due("takes(6,0,2)", ends.size());
        due("of(6,0)", ends.size());
        due("of(6,1)", n);
        due("of(6,2)", n);
        due("of(6,3)", 0);
        due("of(6,5)", count(4, 3));
        for (int i : new int[] {0, 1, 2, 3, 777, ends.size() / 2, ends.size() - 1}) {
            int start = i == 0 ? 0 : ends.get(i - 1);
            boolean isKept = (due(start, 4) & 8) != 0;
            due("part(6," + i + ",0)", isKept ? 3 : 5);
            due("part(6," + i + ",1)", ends.get(i) - start);
            due("part(6," + i + ",2)", isKept ? 0 : 8);
        }
        due("part(6," + ends.size() + ",0)", -2);
        StringBuilder signs = new StringBuilder();
        for (int i = 0; i < 100; i++) {
            int size = ends.get(i) - (i == 0 ? 0 : ends.get(i - 1));
            signs.append((due(ends.get(i) - 1, 4) & 8) != 0 ? "=" + size : "^" + size + ".8");
        }
        for (int i = 0; i < 200; i += 19) due("spelled(6," + i + ")", signs.charAt(i));
        due("differ(6,6)", EditsMeet.NONE);
    }

    private static void undoneAndDone() throws Exception {
        itsParts();
        for (int done = 3; done >= 0; done--) {
            due("undo(0)", 14 + done);
            compare(0, done);
        }
        for (int done = 1; done <= 4; done++) due("redo(0)", 6 - done);
        compare(0, 4);
        due("length(0)", n);
    }

    /** The others hear it; what they do then is heard, too. */
    private static void metAgain() throws Exception {
        due("apart(0,4)", firstUnlike(0));
        int revisions = ask("status(0)");
        due("meet()", revisions + 2);
        for (int c = 0; c < 4; c++) compare(c, 4);
        due("status(1)", 4);
        due("apart(2,4)", EditsMeet.NONE);
        due("mark(3,5," + (n - 5) + ",1,0)", n - 5 - count(5, 4, 1));
        due("undo(3)", ask("clientOf(3,4)") - 1);
        due("meet()", revisions + 4);
        due("length(4)", n);
        compare(1, 4);
    }

    /** The server has the text as it was ahead of the marks that were turned on. */
    private static int firstUnlike(int client) {
        for (int p = 0; p < n; p++) if (due(p, 4) != patterns[2][p]) return p;
        return EditsMeet.NONE;
    }
}

import java.lang.reflect.Method;
import java.util.ArrayList;
import java.util.HashMap;
import java.util.List;
import java.util.Map;
import java.util.Random;

/**
 * Texts of many unlike neighbours, held by four clients in unlike states: patterns of 268, 267 and 266
 * letters, each again and again, that are laid over one another. What is due is reckoned from the
 * letters that the patterns had before, one by one.
 */
public final class UnlikeTest {
    /** What was told as a fault: a mark turned on takes no letters out. */
    private static final String TOLD =
        "days(60); days(60); days(60); days(60); days(60); days(60); days(60); days(60); days(60); "
        + "days(60); days(60); days(60); meet(); image(); cut(0,0,67); takes(0,0,2); takes(1,0,0); "
        + "behind(2,1,0); back(); does(0,2); does(1,2); does(2,2); does(3,2); meet(); mark(0,165,5,3,1); "
        + "mark(0,24,3,0,1); mark(0,187,19,0,1); mark(0,259,4,0,1); mark(0,44,14,3,1); mark(0,35,8,0,1); "
        + "mark(0,217,2,0,1); mark(0,114,21,0,1); mark(0,203,2,1,1); mark(0,23,18,1,1); "
        + "mark(0,148,14,1,1); mark(0,60,19,2,1); mark(0,92,4,1,1); mark(0,190,4,0,1); mark(0,30,20,1,1); "
        + "mark(0,254,11,3,1); mark(0,160,15,3,1); mark(0,185,10,1,1); mark(0,92,23,1,1); "
        + "mark(0,41,19,2,1); mark(0,253,15,2,1); mark(0,229,10,0,1); mark(0,60,17,3,1); "
        + "mark(0,84,25,2,1); mark(0,77,30,3,1); mark(0,215,2,0,1); mark(0,160,11,2,1); "
        + "mark(0,254,10,3,1); mark(0,35,27,0,1); mark(0,138,16,0,1); mark(0,31,24,2,1); "
        + "mark(0,228,10,3,1); mark(0,177,1,3,1); mark(0,181,6,0,1); mark(0,252,2,1,1); mark(0,147,5,1,1); "
        + "mark(0,203,13,3,1); mark(0,41,6,3,1); mark(0,205,18,2,1); mark(0,70,27,3,1); meet(); image(); "
        + "cut(0,0,268); takes(0,0,2); takes(1,0,0); behind(2,1,0); back(); does(0,2); does(1,2); "
        + "does(2,2); does(3,2); meet(); takes(3,0,2); takes(4,1,2); takes(5,2,2); takes(6,3,2); "
        + "mark(0,0,1,0,1); does(0,3); does(0,4); does(0,5); does(0,6); takes(7,0,1); does(0,7); "
        + "does(1,7); does(2,7); does(3,7); meet(); takes(3,0,2); takes(4,1,2); takes(5,2,2); "
        + "takes(6,3,2); mark(0,0,1,0,1); does(0,3); does(0,4); does(0,5); does(0,6); takes(7,0,1); "
        + "does(0,7); does(1,7); does(2,7); does(3,7); meet(); takes(3,0,2); takes(4,1,2); takes(5,2,2); "
        + "takes(6,3,2); mark(0,0,1,0,1); does(0,3); does(0,4); does(0,5); does(0,6); takes(7,0,1); "
        + "does(0,7); does(1,7); does(2,7); does(3,7); meet(); takes(3,0,2); takes(4,1,2); takes(5,2,2); "
        + "takes(6,3,2); mark(0,0,1,0,1); does(0,3); does(0,4); does(0,5); does(0,6); takes(7,0,1); "
        + "does(0,7); does(1,7); does(2,7); does(3,7); meet(); takes(3,0,2); takes(4,1,2); takes(5,2,2); "
        + "takes(6,3,2); mark(0,0,1,0,1); does(0,3); does(0,4); does(0,5); does(0,6); takes(7,0,1); "
        + "does(0,7); does(1,7); does(2,7); does(3,7); meet(); mark(0,0,1097728,0,1); takes(10,0,2); "
        + "mark(0,0,1097728,1,1); takes(11,0,2); back(); cut(0,0,1); meet(); image(); cut(0,0,267); "
        + "takes(0,0,2); takes(1,0,0); behind(2,1,0); back(); does(0,2); does(1,2); does(2,2); does(3,2); "
        + "meet(); takes(3,0,2); takes(4,1,2); takes(5,2,2); takes(6,3,2); mark(0,0,1,0,1); does(0,3); "
        + "does(0,4); does(0,5); does(0,6); takes(7,0,1); does(0,7); does(1,7); does(2,7); does(3,7); "
        + "meet(); takes(3,0,2); takes(4,1,2); takes(5,2,2); takes(6,3,2); mark(0,0,1,0,1); does(0,3); "
        + "does(0,4); does(0,5); does(0,6); takes(7,0,1); does(0,7); does(1,7); does(2,7); does(3,7); "
        + "meet(); takes(3,0,2); takes(4,1,2); takes(5,2,2); takes(6,3,2); mark(0,0,1,0,1); does(0,3); "
        + "does(0,4); does(0,5); does(0,6); takes(7,0,1); does(0,7); does(1,7); does(2,7); does(3,7); "
        + "meet(); takes(3,0,2); takes(4,1,2); takes(5,2,2); takes(6,3,2); mark(0,0,1,0,1); does(0,3); "
        + "does(0,4); does(0,5); does(0,6); takes(7,0,1); does(0,7); does(1,7); does(2,7); does(3,7); "
        + "meet(); takes(3,0,2); takes(4,1,2); takes(5,2,2); takes(6,3,2); mark(0,0,1,0,1); does(0,3); "
        + "does(0,4); does(0,5); does(0,6); takes(7,0,1); does(0,7); does(1,7); does(2,7); does(3,7); "
        + "meet(); takes(3,0,2); takes(4,1,2); takes(5,2,2); takes(6,3,2); mark(0,0,1,0,1); does(0,3); "
        + "does(0,4); does(0,5); does(0,6); takes(7,0,1); does(0,7); does(1,7); does(2,7); does(3,7); "
        + "meet(); cut(0,1097728,3276800); meet(); mark(0,0,1097728,0,1); takes(8,0,2); "
        + "mark(0,0,1097728,1,1); takes(9,0,2); back(); cut(0,0,1); meet(); image(); cut(0,0,266); "
        + "takes(0,0,2); takes(1,0,0); behind(2,1,0); back(); does(0,2); does(1,2); does(2,2); does(3,2); "
        + "meet(); takes(3,0,2); takes(4,1,2); takes(5,2,2); takes(6,3,2); mark(0,0,1,0,1); does(0,3); "
        + "does(0,4); does(0,5); does(0,6); takes(7,0,1); does(0,7); does(1,7); does(2,7); does(3,7); "
        + "meet(); takes(3,0,2); takes(4,1,2); takes(5,2,2); takes(6,3,2); mark(0,0,1,0,1); does(0,3); "
        + "does(0,4); does(0,5); does(0,6); takes(7,0,1); does(0,7); does(1,7); does(2,7); does(3,7); "
        + "meet(); takes(3,0,2); takes(4,1,2); takes(5,2,2); takes(6,3,2); mark(0,0,1,0,1); does(0,3); "
        + "does(0,4); does(0,5); does(0,6); takes(7,0,1); does(0,7); does(1,7); does(2,7); does(3,7); "
        + "meet(); takes(3,0,2); takes(4,1,2); takes(5,2,2); takes(6,3,2); mark(0,0,1,0,1); does(0,3); "
        + "does(0,4); does(0,5); does(0,6); takes(7,0,1); does(0,7); does(1,7); does(2,7); does(3,7); "
        + "meet(); takes(3,0,2); takes(4,1,2); takes(5,2,2); takes(6,3,2); mark(0,0,1,0,1); does(0,3); "
        + "does(0,4); does(0,5); does(0,6); takes(7,0,1); does(0,7); does(1,7); does(2,7); does(3,7); "
        + "meet(); takes(3,0,2); takes(4,1,2); takes(5,2,2); takes(6,3,2); mark(0,0,1,0,1); does(0,3); "
        + "does(0,4); does(0,5); does(0,6); takes(7,0,1); does(0,7); does(1,7); does(2,7); does(3,7); "
        + "meet(); cut(0,1097728,3260416); meet(); does(0,8); does(0,10); length(0); "
        + "mark(0,0,1097728,0,1); length(0); does(1,9); does(1,10); length(1); mark(1,0,1097728,1,1); "
        + "length(1); does(2,8); does(2,11); length(2); mark(2,0,1097728,2,1); length(2); ";

    private static final Map<String, Method> METHODS = new HashMap<>();
    private static EditsMeet x;
    private static int length;
    /** The marks of the three patterns, over all of the text. */
    private static byte[][] patterns;

    public static void main(String[] args) throws Exception {
        for (Method method : EditsMeet.class.getDeclaredMethods()) METHODS.put(method.getName(), method);
        List<String> told = List.of(TOLD.split("; *"));
        Check.due("calls", told.size(), 386);
        run(told, 1097728, 1);
        manyEdits(7);
        run(longer(told, 1), 4390912, 11);
        Check.end();
    }

    /** The same, with so many more rounds that make the text four times as long. */
    private static List<String> longer(List<String> told, int rounds) {
        List<String> made = new ArrayList<>();
        for (int i = 0; i < told.size(); i++) {
            String call = told.get(i);
            int times = 1 << 2 * rounds;
            if (call.startsWith("cut(0,1097728,")) {
                int n = Integer.parseInt(call.substring(14, call.length() - 1));
                call = "cut(0," + 1097728 * times + "," + n * times + ")";
            }
            made.add(call.replace(",1097728,", "," + 1097728 * times + ","));
            boolean isLastOfRounds = call.equals("meet()") && i > 14 && isRound(told, i - 14) && !isRound(told, i + 1);
            for (int k = 0; k < rounds && isLastOfRounds; k++) made.addAll(told.subList(i - 14, i + 1));
        }
        return made;
    }

    private static boolean isRound(List<String> told, int i) {
        return i + 14 < told.size() && told.get(i).equals("takes(3,0,2)") && told.get(i + 9).equals("takes(7,0,1)");
    }

    private static int ask(String call) throws Exception {
        int at = call.indexOf('(');
        String numbers = call.substring(at + 1, call.length() - 1);
        String[] words = numbers.isEmpty() ? new String[0] : numbers.split(",");
        Object[] values = new Object[words.length];
        for (int i = 0; i < words.length; i++) values[i] = Integer.parseInt(words[i]);
        return ((Number) METHODS.get(call.substring(0, at)).invoke(x, values)).intValue();
    }

    private static void due(String call, int want) throws Exception {
        Check.due(length + ": " + call, ask(call), want);
    }

    /** Runs all but the last fifteen calls, then those, each with the answer that is due. */
    private static void run(List<String> told, int n, int step) throws Exception {
        x = new EditsMeet();
        length = n;
        patterns = new byte[3][];
        int calls = told.size() - 15;
        for (int i = 0; i < calls; i++) {
            String call = told.get(i);
            if (call.equals("mark(0,0," + n + ",0,1)")) patterns[told.get(i + 1).equals("takes(10,0,2)") ? 0 : 1] = marks(n);
            ask(call);
        }
        Check.due("calls", calls + 15, n == 1097728 ? 386 : 431);
        patterns[2] = marks(n);
        due("length(0)", n);
        due("does(0,8)", n);
        due("does(0,10)", n);
        due("length(0)", n);
        due("mark(0,0," + n + ",0,1)", without(1, 1, 1));
        due("length(0)", n);
        due("does(1,9)", n);
        due("does(1,10)", n);
        due("length(1)", n);
        due("mark(1,0," + n + ",1,1)", without(0, 2, 2));
        due("length(1)", n);
        due("does(2,8)", n);
        due("does(2,11)", n);
        due("length(2)", n);
        int otherwise = without(0, 0, 4);
        due("mark(2,0," + n + ",2,1)", otherwise);
        due("length(2)", n);
        int parts = ask("takes(7,2,2)");
        due("of(7,0)", parts);
        due("of(7,5)", otherwise);
        due("of(7,1)", n);
        due("of(7,2)", n);
        compare(step);
        due("does(3,9)", n);
        due("does(3,11)", n);
        due("length(3)", n);
        for (int p = 0; p < n; p += step) {
            int all = patterns[2][p] & (patterns[1][p] & 2 | ~2) & (patterns[0][p] & 2 | ~2);
            if (x.text(3, p, 1) != all) due("text(3," + p + ",1)", all);
        }
        backAgain(step);
    }

    /** Each client does sixteen more, most of them unlike all others; all are undone, done again and undone. */
    private static void manyEdits(int step) throws Exception {
        Random random = new Random(1);
        int some = (length + step - 1) / step;
        byte[][][] texts = new byte[17][4][some];
        for (int i = 0; i < some; i++) for (int c = 0; c < 4; c++) texts[0][c][i] = patterns[2][i * step];
        for (int k = 1; k <= 16; k++) {
            for (int c = 0; c < 4; c++) {
                int edit = 8 + random.nextInt(4), p = random.nextInt(length), n = 1 + random.nextInt(length - p);
                int bit = random.nextInt(4), is = random.nextInt(2);
                boolean isMark = random.nextBoolean();
                if (isMark) Check.that("mark", x.mark(c, p, n, bit, is) >= 0);
                else due("does(" + c + "," + edit + ")", length);
                for (int i = 0; i < some; i++) {
                    int had = texts[k - 1][c][i], at = i * step;
                    boolean isTurned = isMark && at >= p && at < p + n;
                    int turned = is == 1 ? had | 1 << bit : had & ~(1 << bit);
                    int left = edit % 2 == 0 ? 1 : 2;
                    int done = had & (patterns[edit < 10 ? 1 : 0][at] & left | ~left);
                    texts[k][c][i] = (byte) (isTurned ? turned : isMark ? had : done);
                }
            }
        }
        for (int c = 0; c < 4; c++) {
            compare(c, texts[16][c], step);
            for (int k = 15; k >= 0; k--) Check.that("undo", x.undo(c) >= 0);
            due("apart(" + c + ",4)", EditsMeet.NONE);
            for (int k = 1; k <= 10; k++) due("redo(" + c + ")", 16 - k);
            compare(c, texts[10][c], step);
            for (int k = 9; k >= 5; k--) Check.that("undo", x.undo(c) >= 0);
            compare(c, texts[5][c], step);
            due("length(" + c + ")", length);
        }
    }

    private static void compare(int c, byte[] marks, int step) throws Exception {
        int unlike = 0;
        for (int i = 0; i < marks.length; i++) if (x.text(c, i * step, 1) != marks[i]) unlike++;
        Check.due("letters of client " + c + " that are otherwise", unlike, 0);
    }

    /** The marks of all letters that client 0 has. */
    private static byte[] marks(int n) {
        byte[] found = new byte[n];
        for (int p = 0; p < n; p++) found[p] = (byte) x.text(0, p, 1);
        return found;
    }

    /** How many letters have not all of these bits of the first pattern, the second one and the third. */
    private static int without(int one, int two, int three) {
        int found = 0;
        for (int p = 0; p < length; p++) {
            boolean has = (patterns[0][p] & one) == one && (patterns[1][p] & two) == two && (patterns[2][p] & three) == three;
            if (!has) found++;
        }
        return found;
    }

    /** An edit that undid a mark turns it off where the text hadn't had it; then each client turned one on. */
    private static void compare(int step) throws Exception {
        for (int p = 0; p < length; p += step) {
            int zero = patterns[2][p] | 1;
            int one = patterns[2][p] & (patterns[0][p] & 1 | ~1) | 2;
            int two = patterns[2][p] & (patterns[1][p] & 1 | ~1) & (patterns[0][p] & 2 | ~2) | 4;
            if (x.text(0, p, 1) != zero) due("text(0," + p + ",1)", zero);
            if (x.text(1, p, 1) != one) due("text(1," + p + ",1)", one);
            if (x.text(2, p, 1) != two) due("text(2," + p + ",1)", two);
        }
    }

    /** What is undone leaves the text as it was, with all letters. */
    private static void backAgain(int step) throws Exception {
        for (int c = 0; c < 4; c++) {
            for (int k = 0; k < (c == 3 ? 2 : 3); k++) Check.that(length + ": undo(" + c + ")", ask("undo(" + c + ")") >= 0);
            due("length(" + c + ")", length);
            due("apart(" + c + ",4)", EditsMeet.NONE);
        }
        for (int p = 0; p < length; p += step) {
            if (x.text(1, p, 1) != patterns[2][p]) due("text(1," + p + ",1)", patterns[2][p]);
        }
    }
}

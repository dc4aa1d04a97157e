import java.lang.reflect.Method;
import java.util.Random;

/**
 * Edits of very many parts: a mark on a long text whose letters have it by turns makes a part for
 * each of them in what turns it. What is due is reckoned: the text is a pattern told once, again and
 * again.
 */
public final class ManyPartsTest {
    private static final int NONE = EditsMeet.NONE, BAD = -2, FULL = -6;

    /** What was told as a fault: the text has its letters back, when a mark on all of them is undone. */
    private static final String TOLD =
        "feed(43); feed(97); feed(98); edit(0); feed(94); feed(49); feed(46); feed(49); feed(61); feed(49); "
        + "edit(1); behind(0,0,1); over(1,0,0,1); behind(0,0,1); over(1,0,0,1); behind(0,0,1); over(1,0,0,1); "
        + "behind(0,0,1); over(1,0,0,1); behind(0,0,1); turned(1,0,0); behind(2,1,0); does(0,0); does(1,0); "
        + "does(2,0); does(3,0); does(0,2); does(1,2); does(2,2); does(3,2); meet(); takes(3,0,2); takes(4,1,2); "
        + "takes(5,2,2); takes(6,3,2); mark(0,0,1,0,1); does(0,3); does(0,4); does(0,5); does(0,6); takes(7,0,1); "
        + "does(0,7); does(1,7); does(2,7); does(3,7); meet(); takes(3,0,2); takes(4,1,2); takes(5,2,2); "
        + "takes(6,3,2); mark(0,0,1,0,1); does(0,3); does(0,4); does(0,5); does(0,6); takes(7,0,1); does(0,7); "
        + "does(1,7); does(2,7); does(3,7); meet(); takes(3,0,2); takes(4,1,2); takes(5,2,2); takes(6,3,2); "
        + "mark(0,0,1,0,1); does(0,3); does(0,4); does(0,5); does(0,6); takes(7,0,1); does(0,7); does(1,7); "
        + "does(2,7); does(3,7); meet(); takes(3,0,2); takes(4,1,2); takes(5,2,2); takes(6,3,2); mark(0,0,1,0,1); "
        + "does(0,3); does(0,4); does(0,5); does(0,6); takes(7,0,1); does(0,7); does(1,7); does(2,7); does(3,7); "
        + "meet(); takes(3,0,2); takes(4,1,2); takes(5,2,2); takes(6,3,2); mark(0,0,1,0,1); does(0,3); does(0,4); "
        + "does(0,5); does(0,6); takes(7,0,1); does(0,7); does(1,7); does(2,7); does(3,7); meet(); takes(3,0,2); "
        + "takes(4,1,2); takes(5,2,2); takes(6,3,2); mark(0,0,1,0,1); does(0,3); does(0,4); does(0,5); does(0,6); "
        + "takes(7,0,1); does(0,7); does(1,7); does(2,7); does(3,7); meet(); takes(3,0,2); takes(4,1,2); "
        + "takes(5,2,2); takes(6,3,2); mark(0,0,1,0,1); does(0,3); does(0,4); does(0,5); does(0,6); takes(7,0,1); "
        + "does(0,7); does(1,7); does(2,7); does(3,7); meet(); takes(3,0,2); takes(4,1,2); takes(5,2,2); "
        + "takes(6,3,2); mark(0,0,1,0,1); does(0,3); does(0,4); does(0,5); does(0,6); takes(7,0,1); does(0,7); "
        + "does(1,7); does(2,7); does(3,7); meet(); mark(0,0,8388608,0,1); undo(0); length(0);";

    private static EditsMeet x;

    public static void main(String[] args) throws Exception {
        Check.due("length(0)", run(TOLD), 8388608);
        Check.due("apart(0, 1)", x.apart(0, 1), NONE);
        for (int p = 0; p < 8388608; p += 7777) byTurns(0, p);
        told();
        undoneAndDoneAgain();
        servedAndHeard();
        waiting();
        twoPatterns();
        shifted();
        alike();
        asLongAsCanBe();
        manyMarksOnLongTexts();
        Check.end();
    }

    /** Calls, told as an issue tells them: the last one's answer. */
    private static long run(String calls) throws Exception {
        x = new EditsMeet();
        long answer = 0;
        int n = 0;
        for (String call : calls.split("; *")) {
            String name = call.substring(0, call.indexOf('('));
            String told = call.substring(name.length() + 1, call.length() - 1);
            String[] words = told.isEmpty() ? new String[0] : told.split(",");
            Object[] numbers = new Object[words.length];
            for (int i = 0; i < words.length; i++) numbers[i] = Integer.parseInt(words[i]);
            for (Method method : EditsMeet.class.getDeclaredMethods()) {
                if (!method.getName().equals(name) || method.getParameterCount() != words.length) continue;
                answer = ((Number) method.invoke(x, numbers)).longValue();
                n++;
            }
        }
        Check.due("calls", n, 154);
        return answer;
    }

    private static void due(String call, long got, long want) {
        Check.due(call, got, want);
    }

    private static void byTurns(int client, int p) {
        due("text at " + p, x.text(client, p, 0), p % 2);
        due("marks at " + p, x.text(client, p, 1), 1 - p % 2);
    }

    private static void ed(int e, String spelled) {
        for (char c : spelled.toCharArray()) x.feed(c);
        x.edit(e);
    }

    /** All have the pattern (letters, then marks, each as often), 4 times as long each round. */
    private static int grow(String letters, String marks, int rounds) {
        x = new EditsMeet();
        ed(0, "+" + letters);
        x.does(0, 0);
        for (int p = 0; p < marks.length(); p++) {
            for (int bit = 0; bit < 4; bit++) {
                if ((Character.digit(marks.charAt(p), 16) >> bit & 1) == 1) x.mark(0, p, 1, bit, 1);
            }
        }
        x.meet();
        x.image();
        int n = x.cut(0, 0, letters.length());
        x.takes(0, 0, 2);
        x.takes(1, 0, 0);
        x.behind(2, 1, 0);
        x.back();
        for (int c = 0; c < 4; c++) x.does(c, 2);
        x.meet();
        for (int round = 0; round < rounds; round++) growOnce();
        n = letters.length() << 2 * rounds + 2;
        due("length", x.length(4), n);
        return n;
    }

    private static void growOnce() {
        for (int c = 0; c < 4; c++) x.takes(3 + c, c, 2);
        x.mark(0, 0, 1, 0, 1);
        for (int c = 0; c < 4; c++) x.does(0, 3 + c);
        x.takes(7, 0, 1);
        for (int c = 0; c < 4; c++) x.does(c, 7);
        x.meet();
    }

    private static void spells(int edit, int start, String spelled) {
        StringBuilder found = new StringBuilder();
        for (int i = 0; i < spelled.length(); i++) found.append((char) x.spelled(edit, start + i));
        Check.same("edit " + edit + " from " + start, found.toString(), spelled);
    }

    private static void told() {
        int n = grow("ab", "10", 9);
        due("text", n, 2097152);
        due("otherwise", x.mark(1, 0, n, 0, 1), n / 2);
        due("parts", x.takes(0, 1, 2), n);
        due("parts", x.of(0, 0), n);
        due("from", x.of(0, 1), n);
        due("to", x.of(0, 2), n);
        due("inserted", x.of(0, 3), 0);
        due("deleted", x.of(0, 4), 0);
        due("marked", x.of(0, 5), n / 2);
        for (int i = 0; i < n; i += 9973) {
            due("kind of " + i, x.part(0, i, 0), i % 2 == 0 ? 3 : 5);
            due("size of " + i, x.part(0, i, 1), 1);
            due("on of " + i, x.part(0, i, 2), 0);
            due("off of " + i, x.part(0, i, 3), i % 2);
            due("no insert", x.letter(0, i, 0), -3);
        }
        due("part", x.part(0, n - 1, 3), 1);
        due("part", x.part(0, n, 3), BAD);
        due("show", x.show(0, 0, n - 1), 1);
        due("holds", x.holds(0), 15);
        due("says", x.says(0, 5), 1);
        due("show", x.show(0, 0, n), BAD);
        spells(0, 0, "=1_1.1=1_1.1");
        spells(0, 6 * 99999, "=1_1.1");
        spells(0, 6 * (n / 2 - 1), "=1_1.1");
        due("no more", x.spelled(0, 3 * n), NONE);
        due("what is sent", x.clientOf(1, 1), 1);
        due("takes", x.takes(1, 1, 0), 1);
        spells(1, 0, "^" + n + ".1");
        due("differ", x.differ(0, 1), 0);
        due("differ", x.differ(0, 0), NONE);
        due("too long", x.behind(2, 1, 0), FULL);
        due("too long", x.over(2, 1, 0, 1), FULL);
        due("too long", x.turned(2, 0, 1), FULL);
    }

    private static void undoneAndDoneAgain() {
        int n = grow("ab", "10", 8);
        int kept = x.clientOf(2, 4);
        due("otherwise", x.mark(2, 1, n - 1, 0, 1), n / 2);
        due("apart", x.apart(2, 3), 1);
        due("marked", x.marked(2, 0), 3);
        for (int again = 0; again < 3; again++) {
            due("undo", x.undo(2), kept);
            due("length", x.length(2), n);
            due("apart", x.apart(2, 3), NONE);
            due("marked", x.marked(2, 0), 1);
            due("to redo", x.takes(0, 2, 3), n);
            spells(0, 0, "=1^1.1=1^1.1");
            due("redo", x.redo(2), 0);
            due("apart", x.apart(2, 3), 1);
            due("to undo", x.takes(0, 2, 2), n);
            spells(0, 0, "=1_1.1=1_1.1");
        }
        due("undo", x.undo(2), kept);
        due("what waits", x.clientOf(2, 3), n);
        x.meet();
        for (int c = 0; c < 4; c++) due("apart", x.apart(c, 4), NONE);
        for (int p = 0; p < n; p += 997) byTurns(4, p);
    }

    private static void servedAndHeard() {
        int n = grow("ab", "10", 8);
        int ahead = x.status(0);
        x.mark(0, 0, n, 0, 1);
        due("serve", x.serve(0), ahead + 1);
        x.undo(0);
        due("cut", x.cut(3, 0, 1), n - 1);
        due("hear", x.hear(0), ahead + 1);
        due("sent now", x.takes(0, 0, 0), n);
        due("serve", x.serve(0), ahead + 2);
        due("revision", x.revision(1, ahead + 2), 0);
        due("parts", x.of(1, 0), n);
        due("differ", x.differ(0, 1), NONE);
        x.point(3, 1000, n - 1);
        due("hear", x.hear(3), ahead + 1);
        due("length", x.length(3), n - 1);
        due("marks", x.marked(3, 0), 3);
        due("hear", x.hear(3), ahead + 2);
        due("marks", x.marked(3, 0), 1);
        due("cursor", x.cursor(3, 0), 1000);
        due("cursor", x.cursor(3, 1), n - 1);
        due("what is sent is as it was", x.clientOf(3, 1), 2);
        for (int p = 0; p < n - 1; p += 997) byTurns(3, p, 1);
        x.meet();
        due("length", x.length(4), n - 1);
        for (int c = 0; c < 4; c++) due("apart", x.apart(c, 4), NONE);
        due("undo", x.undo(3), FULL);
    }

    /** The text begins with so many letters fewer. */
    private static void byTurns(int client, int p, int fewer) {
        due("text at " + p, x.text(client, p, 0), (p + fewer) % 2);
        due("marks at " + p, x.text(client, p, 1), 1 - (p + fewer) % 2);
    }

    /** What waits has many parts, and more of them as others come. */
    private static void waiting() {
        int n = grow("abc", "103", 7);
        x.mark(0, 0, 1, 3, 1);
        x.mark(0, 0, n, 0, 1);
        x.undo(0);
        due("what waits", x.takes(0, 0, 1), 2 * n / 3 + 1);
        spells(0, 0, "^1.1_1.1^2.1_1.1^2.1");
        x.mark(1, 0, n, 1, 1);
        x.undo(1);
        due("parts", x.clientOf(1, 3), 2 * n / 3);
        x.meet();
        for (int c = 0; c < 4; c++) due("apart", x.apart(c, 4), NONE);
        due("length", x.length(4), n);
        due("all marks", x.marked(4, 0), 0b101);
        due("all marks", x.marked(4, 1), 0b100);
        due("all marks", x.marked(4, 3), 0b001);
        due("undo", x.undo(0), x.clientOf(0, 4));
        x.meet();
        due("none of this is left", x.marked(4, 3), 0);
    }

    /** Two marks with patterns of their own, by two clients, one over the other. */
    private static void twoPatterns() {
        int n = grow("abcdef", "321032", 7);
        x.mark(0, 0, n, 0, 0);
        x.mark(1, 0, n, 1, 0);
        x.undo(0);
        x.redo(0);
        x.undo(0);
        x.undo(1);
        x.mark(2, 0, n, 0, 1);
        x.mark(3, 1, n - 2, 1, 1);
        x.meet();
        for (int c = 0; c < 4; c++) due("apart", x.apart(c, 4), NONE);
        x.undo(2);
        x.undo(3);
        x.meet();
        for (int c = 0; c < 4; c++) due("apart", x.apart(c, 4), NONE);
        due("length", x.length(4), n);
        String marks = "321032";
        for (int p = 0; p < n; p += 131) {
            due("text at " + p, x.text(4, p, 0), p % 6);
            due("bit 1 at " + p, x.text(4, p, 1) & 2, Character.digit(marks.charAt(p % 6), 10) & 2);
        }
    }

    /** The same pattern one letter further on. */
    private static void shifted() {
        int n = grow("ab", "10", 8);
        x.mark(0, 0, n, 0, 1);
        x.takes(0, 0, 2);
        x.undo(0);
        x.meet();
        x.image();
        x.cut(1, 0, 1);
        x.takes(1, 1, 2);
        due("to", x.of(1, 2), n);
        x.back();
        due("does", x.does(1, 0), n);
        due("nothing has it now", x.apart(0, 1), NONE);
        due("cut", x.cut(2, n - 1, 1), n - 1);
        due("cut", x.cut(2, 0, 1), n - 2);
        x.mark(2, 0, n - 2, 0, 1);
        due("undo", x.undo(2), x.clientOf(2, 4));
        due("parts", x.takes(2, 2, 3), n - 3 + 1);
        spells(2, 0, "^1.1=1^1.1");
        x.meet();
        due("length", x.length(4), n - 2);
        for (int c = 0; c < 4; c++) due("apart", x.apart(c, 4), NONE);
        for (int p = 0; p < n - 2; p += 997) byTurns(4, p, 1);
    }

    /** Where long texts and edits of many parts differ is found, however far on. */
    private static void alike() {
        int n = grow("ab", "10", 9);
        due("alike", x.apart(0, 1), NONE);
        x.mark(0, n - 1, 1, 2, 1);
        due("apart", x.apart(0, 1), n - 1);
        x.mark(1, n / 2 + 1, 5, 3, 1);
        due("apart", x.apart(0, 1), n / 2 + 1);
        due("apart", x.apart(1, 0), n / 2 + 1);
        due("cut", x.cut(2, n - 3, 3), n - 3);
        due("apart", x.apart(2, 3), n - 3);
        due("apart", x.apart(3, 2), n - 3);
        x.mark(3, 0, n, 0, 1);
        x.takes(0, 3, 2);
        x.takes(1, 3, 0);
        x.undo(3);
        x.takes(2, 3, 3);
        due("differ", x.differ(0, 2), 1);
        x.meet();
        x.mark(3, 0, n - 3, 0, 1);
        x.takes(3, 3, 2);
        due("as far as the text was", x.differ(0, 3), n - 3);
        due("as far as the text was", x.differ(3, 0), n - 3);
    }

    /** Twenty rounds: longer than an int tells, but what is asked of it is right. */
    private static void asLongAsCanBe() {
        x = new EditsMeet();
        grow("ab", "10", 13);
        due("revisions", x.status(0), 71);
        due("length", x.length(4), 536870912);
        due("otherwise", x.mark(0, 0, 536870912, 0, 0), 268435456);
        due("parts", x.takes(0, 0, 2), 536870912);
        due("part", x.part(0, 536870910, 2), 1);
        due("undo", x.undo(0), x.clientOf(0, 4));
        due("apart", x.apart(0, 1), NONE);
        x.meet();
        due("apart", x.apart(0, 4), NONE);
        due("marks", x.text(2, 536870910, 1), 1);
        growOnce();
        due("more than an int tells", x.length(4), Integer.MAX_VALUE);
        due("otherwise", x.mark(2, 0, Integer.MAX_VALUE, 0, 1), 1073741823);
        x.undo(2);
        due("apart", x.apart(2, 3), NONE);
    }

    /** Marks at places by draws, while the text becomes long: what is undone leaves it as it was. */
    private static void manyMarksOnLongTexts() {
        for (int seed = 0; seed < 5; seed++) {
            Random random = new Random(seed);
            int n = grow("abcdefghijklmnopqrstuvwxyz", "01020304f501", 0);
            while (x.status(0) <= 72) {
                for (int c = 0; c < 4; c++) x.takes(3 + c, c, 2);
                for (int k = 0; k < 9; k++) markByDraws(0, random);
                x.meet();
                due("all clients have the server's text", x.status(1), 4);
                x.mark(0, 0, 1, 0, 1);
                for (int c = 0; c < 4; c++) x.does(0, 3 + c);
                x.takes(7, 0, 1);
                for (int c = 0; c < 4; c++) x.does(c, 7);
                x.meet();
                n *= 4;
                due("length", x.length(4), n);
                due("all clients have the server's text", x.status(1), 4);
            }
            due("it became long", n, 109051904);
            for (int c = 0; c < 4; c++) undoneByDraws(c, random);
            x.meet();
            due("all clients have the server's text", x.status(1), 4);
        }
    }

    private static int markByDraws(int client, Random random) {
        int n = x.length(client);
        int place = random.nextInt(n);
        return x.mark(client, place, 1 + random.nextInt(n - place), random.nextInt(4), random.nextInt(2));
    }

    /** Marks of one client are undone, done again and undone, while another one's letters stay as they were. */
    private static void undoneByDraws(int client, Random random) {
        int marks = 1 + random.nextInt(9);
        for (int k = 0; k < marks; k++) {
            int otherwise = markByDraws(client, random);
            due("takes", x.takes(9, client, 2) > 0 ? 1 : 0, 1);
            due("marked", x.of(9, 5), otherwise);
        }
        x.takes(8, client, 2);
        for (int k = 0; k < marks; k++) x.undo(client);
        due("as it was", x.apart(client, 4), NONE);
        for (int k = 0; k < marks; k++) x.redo(client);
        x.takes(9, client, 2);
        due("the same turns it", x.differ(8, 9), NONE);
        for (int k = 0; k < marks; k++) x.undo(client);
        due("as it was", x.apart(client, 4), NONE);
        due("all letters", x.length(client), x.length(4));
    }
}

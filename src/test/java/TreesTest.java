import java.lang.reflect.Field;
import java.util.HashSet;
import java.util.Random;
import java.util.Set;

/**
 * Looks into the trees of letters: they are balanced, what is told of a branch is so, no branch is made
 * twice, and what no edit holds is thrown away. Wrong answers would show elsewhere; slow ones and those
 * that take more and more room show here.
 */
public final class TreesTest {
    private static final int LEAVES = 512, MIXED = 16;

    private static EditsMeet x;
    private static final Random RANDOM = new Random(5);

    public static void main(String[] args) throws Exception {
        for (int run = 0; run < 30; run++) {
            x = new EditsMeet();
            write(run);
            for (int call = 0; call < 150; call++) {
                disturb(run % 5);
                if (call % 10 == 0) look("run " + run + ", call " + call);
            }
            look("run " + run);
        }
        oneByOne();
        allLettersAtOnce();
        longTexts();
        Check.end();
    }

    private static void write(int run) {
        for (int i = 0; i < run; i++) x.insert(i % 4, RANDOM.nextInt(x.length(i % 4) + 1), i % 26, i % 16);
    }

    private static void disturb(int mood) {
        int c = RANDOM.nextInt(4);
        int n = x.length(c);
        int place = n == 0 ? 0 : RANDOM.nextInt(n);
        switch (RANDOM.nextInt(10)) {
            case 0: x.cut(c, place, 1 + RANDOM.nextInt(mood == 0 ? 30 : 3)); break;
            case 1: x.undo(c); break;
            case 2: x.redo(c); break;
            case 3: x.mark(c, place, 1 + RANDOM.nextInt(9), RANDOM.nextInt(4), RANDOM.nextInt(2)); break;
            case 4: if (mood == 1) x.meet(); else x.serve(c); break;
            case 5: x.hear(c); break;
            case 6: x.takes(RANDOM.nextInt(12), c, RANDOM.nextInt(4)); break;
            case 7: x.does(c, RANDOM.nextInt(12)); break;
            case 8: x.days(60); break;
            default: x.insert(c, place, RANDOM.nextInt(26), RANDOM.nextInt(16));
        }
    }

    /** Each letter behind, then each ahead: trees that grow at one end alone. */
    private static void oneByOne() throws Exception {
        x = new EditsMeet();
        for (int i = 0; i < 60; i++) {
            x.insert(0, i, i % 26, 0);
            x.insert(1, 0, i % 26, 0);
            look("at the ends, " + i);
        }
        for (int i = 0; i < 59; i++) {
            x.cut(0, x.length(0) - 1, 1);
            x.cut(1, 0, 1);
            look("from the ends, " + i);
        }
    }

    /** Hundreds of letters without much that they share are marked at once. */
    private static void allLettersAtOnce() throws Exception {
        x = new EditsMeet();
        for (int c = 0; c < 4; c++) {
            x.feed('+');
            for (int i = 0; i < 60; i++) x.feed('a' + RANDOM.nextInt(26));
            x.edit(0);
            x.does(c, 0);
        }
        x.meet();
        for (int c = 0; c < 4; c++) {
            for (byte b : "-99-99-42+".getBytes()) x.feed(b);
            for (int i = 0; i < 240; i++) x.feed('a' + RANDOM.nextInt(26));
            x.edit(0);
            x.does(c, 0);
        }
        x.meet();
        int[] letters = new int[960];
        for (int i = 0; i < 960; i++) letters[i] = x.text(0, i, 0);
        for (int bit = 0; bit < 8; bit++) {
            Check.due("mark", x.mark(0, 0, 960, bit % 4, 1 - bit / 4), 960);
            look("marked " + bit);
            for (int i = 0; i < 960; i++) {
                Check.due("letter " + i, x.text(0, i, 0), letters[i]);
                Check.due("marks " + i, x.text(0, i, 1), bit < 4 ? (2 << bit) - 1 : 15 & ~((2 << bit - 4) - 1));
            }
        }
    }

    private static void longTexts() throws Exception {
        x = new EditsMeet();
        for (int i = 0; i < 60; i++) x.insert(0, i, i % 26, i % 7 == 0 ? i % 16 : 0);
        x.meet();
        x.image();
        x.cut(0, 0, 60);
        x.takes(0, 0, 0);
        x.takes(1, 0, 2);
        x.behind(7, 0, 1);
        x.back();
        for (int c = 0; c < 4; c++) x.does(c, 7);
        x.meet();
        for (int round = 0; round < 8; round++) {
            for (int c = 0; c < 4; c++) x.takes(3 + c, c, 2);
            x.mark(0, 0, 1, 0, 1);
            for (int c = 0; c < 4; c++) x.does(0, 3 + c);
            x.takes(7, 0, 1);
            for (int c = 0; c < 4; c++) x.does(c, 7);
            x.meet();
            look("round " + round);
        }
        Check.due("length", x.length(4), 15728640);
        x.mark(1, 1000, 100000, 2, 1);
        x.mark(2, 5000, 100000, 2, 1);
        x.meet();
        look("marked");
        int used = (int) number("used");
        Check.that("some thousand branches do for millions of letters, not " + used, used < 20000);
    }

    private static Object letters() throws Exception {
        Field field = EditsMeet.class.getDeclaredField("letters");
        field.setAccessible(true);
        return field.get(x);
    }

    private static Object part(String name) throws Exception {
        Object letters = letters();
        Field field = letters.getClass().getDeclaredField(name);
        field.setAccessible(true);
        return field.get(letters);
    }

    private static long number(String name) throws Exception {
        return ((Number) part(name)).longValue();
    }

    private static void look(String when) throws Exception {
        int[] left = (int[]) part("left");
        int[] right = (int[]) part("right");
        long[] sizes = (long[]) part("sizes");
        int[] heights = (int[]) part("heights");
        int[] marks = (int[]) part("marks");
        int used = (int) number("used");
        Set<Long> pairs = new HashSet<>();
        boolean isRight = true;
        for (int node = 0; node < LEAVES; node++) {
            isRight &= sizes[node] == 1 && heights[node] == 0 && marks[node] == node / 32;
        }
        Check.that("leaves, " + when, isRight);
        for (int node = LEAVES; node < used; node++) {
            int one = left[node], two = right[node];
            isRight &= one < node && two < node && one >= 0 && two >= 0;
            isRight &= sizes[node] == sizes[one] + sizes[two];
            isRight &= heights[node] == 1 + Math.max(heights[one], heights[two]);
            isRight &= Math.abs(heights[one] - heights[two]) <= 1;
            isRight &= marks[node] == (marks[one] == marks[two] ? marks[one] : MIXED);
            isRight &= pairs.add(((long) one << 32) + two);
        }
        Check.that("branches, " + when, isRight);
        Check.that("what is thrown away, " + when, used <= number("usedTillTidied") + 2000);
        int[] known = (int[]) part("known");
        int found = 0;
        for (int node : known) found += node != 0 ? 1 : 0;
        Check.due("each branch is known, " + when, found, used - LEAVES);
    }
}

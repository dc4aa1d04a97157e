import java.lang.reflect.Field;
import java.lang.reflect.Method;
import java.util.ArrayList;
import java.util.HashMap;
import java.util.HashSet;
import java.util.List;
import java.util.Map;
import java.util.Random;
import java.util.Set;

/**
 * Looks into the trees of edits and texts: they are plain and balanced, what is told of a node is so,
 * no node holds what another one holds, and what nobody holds is thrown away. Wrong answers would show
 * elsewhere; slow ones and those that take more and more room show here.
 */
public final class TreesTest {
    private static final int DELETE = 512, KEEP = 768;
    private static final int FLAT_MOST = 64;

    private static EditsMeet x;
    private static Random random = new Random(5);
    private static long[] shapes, from, to, parts, leaves;

    public static void main(String[] args) throws Exception {
        for (int run = 0; run < 30; run++) {
            x = new EditsMeet();
            write(run);
            for (int call = 0; call < 150; call++) {
                disturb(run % 5);
                if (call % 30 == 0) look("run " + run + ", call " + call);
            }
            look("run " + run);
            throwAway("run " + run);
        }
        oneByOne();
        allLettersAtOnce();
        longTexts();
        thrownAwayInBetween();
        moreThanThereIsRoomFor();
        Check.end();
    }

    private static void write(int run) {
        for (int i = 0; i < run; i++) x.insert(i % 4, random.nextInt(x.length(i % 4) + 1), i % 26, i % 16);
    }

    private static void disturb(int mood) {
        int c = random.nextInt(4);
        int n = x.length(c);
        int place = n == 0 ? 0 : random.nextInt(n);
        switch (random.nextInt(10)) {
            case 0: x.cut(c, place, 1 + random.nextInt(mood == 0 ? 30 : 3)); break;
            case 1: x.undo(c); break;
            case 2: x.redo(c); break;
            case 3: x.mark(c, place, 1 + random.nextInt(9), random.nextInt(4), random.nextInt(2)); break;
            case 4: if (mood == 1) x.meet(); else x.serve(c); break;
            case 5: x.hear(c); break;
            case 6: x.takes(random.nextInt(12), c, random.nextInt(4)); break;
            case 7: x.does(c, random.nextInt(12)); break;
            case 8: x.days(60); break;
            default: x.insert(c, place, random.nextInt(26), random.nextInt(16));
        }
    }

    /** Each letter behind, then each ahead: trees that grow at one end alone. */
    private static void oneByOne() throws Exception {
        x = new EditsMeet();
        for (int i = 0; i < 60; i++) {
            x.insert(0, i, i % 26, 0);
            x.insert(1, 0, i % 26, 0);
        }
        look("at the ends");
        for (int i = 0; i < 59; i++) {
            x.cut(0, x.length(0) - 1, 1);
            x.cut(1, 0, 1);
        }
        look("from the ends");
        Check.due("a text of one letter is one leaf", leaves[held(0, "client", 0)], 1);
    }

    /** Hundreds of letters without much that they share are marked at once. */
    private static void allLettersAtOnce() throws Exception {
        x = new EditsMeet();
        for (int c = 0; c < 4; c++) {
            x.feed('+');
            for (int i = 0; i < 60; i++) x.feed('a' + random.nextInt(26));
            x.edit(0);
            x.does(c, 0);
        }
        x.meet();
        for (int c = 0; c < 4; c++) {
            for (byte b : "-99-99-42+".getBytes()) x.feed(b);
            for (int i = 0; i < 240; i++) x.feed('a' + random.nextInt(26));
            x.edit(0);
            x.does(c, 0);
        }
        x.meet();
        int[] letters = new int[960];
        for (int i = 0; i < 960; i++) letters[i] = x.text(0, i, 0);
        for (int bit = 0; bit < 8; bit++) {
            Check.due("mark", x.mark(0, 0, 960, bit % 4, 1 - bit / 4), 960);
            look("marked " + bit);
            for (int i = 0; i < 960; i++) {
                Check.due("letter " + i, x.text(0, i, 0), letters[i]);
                Check.due("marks " + i, x.text(0, i, 1), bit < 4 ? (2 << bit) - 1 : 15 & ~((2 << bit - 4) - 1));
            }
        }
    }

    private static void longTexts() throws Exception {
        x = new EditsMeet();
        grow(8);
        Check.due("length", x.length(4), 15728640);
        x.mark(1, 1000, 100000, 2, 1);
        x.mark(2, 5000, 100000, 2, 1);
        x.meet();
        look("marked");
        Check.due("marks", x.mark(3, 0, 15728640, 0, 1), 15728640 / 60 * 56);
        x.undo(3);
        look("many parts");
        throwAway("many parts");
        int used = count();
        Check.that("some thousand nodes do for millions of letters, not " + used, used < 20000);
    }

    private static void grow(int rounds) {
        for (int i = 0; i < 60; i++) x.insert(0, i, i % 26, i % 7 == 0 ? i % 16 : 0);
        x.meet();
        x.image();
        x.cut(0, 0, 60);
        x.takes(0, 0, 0);
        x.takes(1, 0, 2);
        x.behind(7, 0, 1);
        x.back();
        for (int c = 0; c < 4; c++) x.does(c, 7);
        x.meet();
        for (int round = 0; round < rounds; round++) growOnce();
    }

    private static void growOnce() {
        for (int c = 0; c < 4; c++) x.takes(3 + c, c, 2);
        x.mark(0, 0, 1, 0, 1);
        for (int c = 0; c < 4; c++) x.does(0, 3 + c);
        x.takes(7, 0, 1);
        for (int c = 0; c < 4; c++) x.does(c, 7);
        x.meet();
    }

    /** An object that has to make room again and again answers as one does that never has to. */
    private static void thrownAwayInBetween() throws Exception {
        for (int seed = 0; seed < 6; seed++) {
            EditsMeet roomy = new EditsMeet();
            EditsMeet cramped = new EditsMeet();
            x = cramped;
            cramp(seed < 3 ? 4500 : 9000);
            for (int round = 0; round < 45; round++) {
                random = new Random(100 * seed + round);
                x = roomy;
                step(round);
                random = new Random(100 * seed + round);
                x = cramped;
                step(round);
                compare(cramped, roomy);
            }
            int made = roomMade(roomy);
            Check.that("the other one had to make none, with " + made, made > (seed < 3 ? 9000 : 13500));
        }
    }

    private static int roomMade(EditsMeet made) throws Exception {
        x = made;
        return (int) field(trees(), "used");
    }

    private static void compare(EditsMeet cramped, EditsMeet roomy) {
        for (int c = 0; c < 5; c++) {
            Check.due("length", cramped.length(c), roomy.length(c));
            for (int p = 0; p < roomy.length(c); p += 1 + roomy.length(c) / 50) {
                Check.due("letter", cramped.text(c, p, 0), roomy.text(c, p, 0));
                Check.due("marks", cramped.text(c, p, 1), roomy.text(c, p, 1));
            }
        }
        for (int e = 0; e < 12; e++) {
            int n = roomy.of(e, 0);
            for (int what = 0; what < 6; what++) Check.due("of", cramped.of(e, what), roomy.of(e, what));
            for (int i = 0; i < n; i += 1 + n / 50) {
                for (int what = 0; what < 4; what++) {
                    Check.due("part", cramped.part(e, i, what), roomy.part(e, i, what));
                }
            }
        }
    }

    /** As if all nodes but some were held by others. */
    private static void cramp(int some) throws Exception {
        Object store = trees();
        read();
        int most = leaves.length;
        Method newSlots = store.getClass().getDeclaredMethod("newSlots", int.class);
        newSlots.setAccessible(true);
        int[] others = (int[]) field(newSlots.invoke(store, most), "nodes");
        long[] hashes = (long[]) field(store, "hashes");
        for (int node = some + 1; node < most; node++) {
            others[node] = node;
            leaves[node] = 1;
            hashes[node] = -7919L * node;
        }
        set(store, "free", some);
        set(store, "used", most);
    }

    private static void step(int round) {
        if (round == 0) grow(random.nextInt(2));
        else if (round < 30) disturb(random.nextInt(5));
        else if (round % 3 == 0) growOnce();
        else for (int k = 0; k < 4; k++) disturb(1);
    }

    /** Where all nodes are held, parts are lost; but nothing is thrown, and each call ends. */
    private static void moreThanThereIsRoomFor() throws Exception {
        for (int some = 0; some < 2600; some += 500) {
            x = new EditsMeet();
            cramp(some);
            random = new Random(some);
            grow(some / 1000);
            for (int call = 0; call < 100; call++) {
                disturb(call % 5);
                if (call % 20 == 0) growOnce();
                Check.that("an answer", x.length(4) >= 0 && x.apart(0, 4) >= -1 && x.of(3, 0) >= -4);
                Check.that("an answer", x.spelled(7, 3) >= -4 && x.marked(2, 1) >= 0 && x.differ(3, 4) >= -4);
            }
        }
    }

    // ---------------------------------------------------------------- looked into

    private static Object field(Object of, String name) throws Exception {
        Field field = of.getClass().getDeclaredField(name);
        field.setAccessible(true);
        return field.get(of);
    }

    private static void set(Object of, String name, int value) throws Exception {
        Field field = of.getClass().getDeclaredField(name);
        field.setAccessible(true);
        field.setInt(of, value);
    }

    private static Object trees() throws Exception {
        return field(x, "trees");
    }

    private static void read() throws Exception {
        Object store = trees();
        shapes = (long[]) field(store, "shapes");
        from = (long[]) field(store, "from");
        to = (long[]) field(store, "to");
        parts = (long[]) field(store, "parts");
        leaves = (long[]) field(store, "leaves");
    }

    private static int left(int node) {
        return (int) (shapes[node] >> 38) & (1 << 18) - 1;
    }

    private static int right(int node) {
        return (int) (shapes[node] >> 20) & (1 << 18) - 1;
    }

    private static int first(int node) {
        return (int) (shapes[node] >> 10) & 1023;
    }

    private static int last(int node) {
        return (int) shapes[node] & 1023;
    }

    private static int held(int owner, String what, int slot) throws Exception {
        read();
        Object meeting = field(x, "meeting");
        Object client = ((Object[]) field(meeting, what + "s"))[owner];
        return ((int[]) field(field(client, "held"), "nodes"))[slot];
    }

    private static int count() {
        int found = 0;
        for (int node = 1; node < leaves.length; node++) found += leaves[node] > 0 ? 1 : 0;
        return found;
    }

    private static void look(String when) throws Exception {
        read();
        boolean isRight = true;
        boolean isBalanced = true;
        boolean isPlain = true;
        Set<List<Long>> contents = new HashSet<>();
        boolean isOnce = true;
        for (int node = 1; node < leaves.length; node++) {
            if (leaves[node] == 0) continue;
            if (right(node) == 0) isRight &= isLeaf(node);
            else isRight &= isBranch(node);
            if (leaves[node] <= FLAT_MOST) {
                List<Long> content = new ArrayList<>();
                isPlain &= flatten(node, content);
                isOnce &= contents.add(content);
            }
            if (right(node) == 0) continue;
            int one = left(node), two = right(node);
            isPlain &= last(one) != first(two) && (last(one) != DELETE || first(two) >= DELETE);
            isBalanced &= leaves[one] <= 3 * leaves[two] && leaves[two] <= 3 * leaves[one];
        }
        Check.that("what nodes say, " + when, isRight);
        Check.that("plain, " + when, isPlain);
        Check.that("balanced, " + when, isBalanced);
        Check.that("nothing twice, " + when, isOnce);
        Check.due("free, " + when, ((Integer) field(trees(), "free")), leaves.length - 1 - count());
        int[] known = (int[]) field(trees(), "known");
        Map<Integer, Integer> found = new HashMap<>();
        for (int node : known) if (node != 0) found.merge(node, 1, Integer::sum);
        Check.due("each node is known, " + when, found.size(), count());
    }

    private static boolean isLeaf(int node) {
        int act = first(node);
        long n = Math.max(from[node], to[node]);
        boolean isLetter = act < DELETE && (act & 31) < 26;
        int turned = act - KEEP;
        boolean isAct = isLetter || act == DELETE || turned >= 0 && turned < 256 && (turned >> 4 & turned & 15) == 0;
        boolean isSize = from[node] == (isLetter ? 0 : n) && to[node] == (act == DELETE ? 0 : n) && n > 0;
        return isAct && isSize && last(node) == act && parts[node] == 1 && leaves[node] == 1;
    }

    private static boolean isBranch(int node) {
        int one = left(node), two = right(node);
        int seam = last(one) < DELETE && first(two) < DELETE ? 1 : 0;
        return leaves[one] > 0 && leaves[two] > 0 && leaves[node] == leaves[one] + leaves[two]
            && from[node] == from[one] + from[two] && to[node] == to[one] + to[two]
            && parts[node] == parts[one] + parts[two] - seam
            && first(node) == first(one) && last(node) == last(two);
    }

    private static boolean flatten(int node, List<Long> content) {
        if (right(node) != 0) return flatten(left(node), content) & flatten(right(node), content);
        content.add((long) first(node));
        content.add(Math.max(from[node], to[node]));
        return true;
    }

    /** What nobody holds is thrown away, and all else is as it was. */
    private static void throwAway(String when) throws Exception {
        Object loom = field(x, "loom");
        set(loom, "top", 0);
        set(trees(), "low", 3 << 16);
        Method tidy = loom.getClass().getDeclaredMethod("tidy", int.class);
        tidy.setAccessible(true);
        tidy.invoke(loom, 0);
        read();
        Set<Integer> reached = new HashSet<>();
        for (Object slots : (List<?>) field(trees(), "holders")) {
            for (int node : (int[]) field(slots, "nodes")) reach(node, reached);
        }
        Check.due("nothing else is left, " + when, count(), reached.size());
        look("thrown away, " + when);
    }

    private static void reach(int node, Set<Integer> reached) {
        if (node <= 0 || !reached.add(node)) return;
        reach(left(node), reached);
        reach(right(node), reached);
    }
}

import java.lang.reflect.Field;
import java.lang.reflect.Method;
import java.util.ArrayList;
import java.util.HashMap;
import java.util.HashSet;
import java.util.List;
import java.util.Map;
import java.util.Random;
import java.util.Set;

/**
 * Looks into the trees of edits and texts: they are plain, what is told of a node is so, what an edit
 * holds tells alone which node it is (however it came to be), and what nobody holds is thrown away.
 * Some wrong answers would show elsewhere, too; slow ones and those that take more and more room show
 * here.
 */
public final class TreesTest {
    private static final int ACTS = 1024, DELETE = 512, KEEP = 768;
    private static final int FLAT_MOST = 64, PARSED_MOST = 3000;
    private static final int ID_BITS = 21, ID_MASK = (1 << ID_BITS) - 1;
    private static final long BEGINS_WITH_LETTER = 1L << 51, ENDS_WITH_LETTER = 1L << 52, ENDS_WITH_DELETE = 1L << 53,
        HAS_DELETE = 1L << 54;

    private static EditsMeet x;
    private static Random random = new Random(5);
    private static long[] shapes, sizes, bigFrom, bigTo;

    public static void main(String[] args) throws Exception {
        for (int run = 0; run < 24; run++) {
            x = new EditsMeet();
            write(run);
            for (int call = 0; call < 150; call++) {
                disturb(run % 5);
                if (call % 50 == 0) look("run " + run + ", call " + call);
            }
            look("run " + run);
            throwAway("run " + run);
        }
        oneByOne();
        allLettersAtOnce();
        longTexts();
        hugeTexts();
        joinedAndParted();
        unlikeOnes();
        whatIsRemembered();
        Check.end();
    }

    private static void write(int run) {
        for (int i = 0; i < run; i++) x.insert(i % 4, random.nextInt(x.length(i % 4) + 1), i % 26, i % 16);
    }

    private static void disturb(int mood) {
        int c = random.nextInt(4);
        int n = x.length(c);
        int place = n == 0 ? 0 : random.nextInt(n);
        switch (random.nextInt(10)) {
            case 0: x.cut(c, place, 1 + random.nextInt(mood == 0 ? 30 : 3)); break;
            case 1: x.undo(c); break;
            case 2: x.redo(c); break;
            case 3: x.mark(c, place, 1 + random.nextInt(9), random.nextInt(4), random.nextInt(2)); break;
            case 4: if (mood == 1) x.meet(); else x.serve(c); break;
            case 5: x.hear(c); break;
            case 6: x.takes(random.nextInt(12), c, random.nextInt(4)); break;
            case 7: x.does(c, random.nextInt(12)); break;
            case 8: x.days(60); break;
            default: x.insert(c, place, random.nextInt(26), random.nextInt(16));
        }
    }

    /** Each letter behind, then each ahead: trees that grow at one end alone. */
    private static void oneByOne() throws Exception {
        x = new EditsMeet();
        for (int i = 0; i < 60; i++) {
            x.insert(0, i, i % 26, 0);
            x.insert(1, 0, (59 - i) % 26, 0);
        }
        look("at the ends");
        Check.due("the same text is the same node", held(0, 0), held(1, 0));
        Check.due("the same text", x.apart(0, 1), -1);
        for (int i = 0; i < 59; i++) {
            x.cut(0, x.length(0) - 1, 1);
            x.cut(1, 0, 1);
        }
        look("from the ends");
        Check.due("a text of one letter is that act", held(0, 0), 1);
    }

    /** Hundreds of letters without much that they share are marked at once. */
    private static void allLettersAtOnce() throws Exception {
        x = new EditsMeet();
        for (int c = 0; c < 4; c++) {
            x.feed('+');
            for (int i = 0; i < 60; i++) x.feed('a' + random.nextInt(26));
            x.edit(0);
            x.does(c, 0);
        }
        x.meet();
        for (int c = 0; c < 4; c++) {
            for (byte b : "-99-99-42+".getBytes()) x.feed(b);
            for (int i = 0; i < 240; i++) x.feed('a' + random.nextInt(26));
            x.edit(0);
            x.does(c, 0);
        }
        x.meet();
        int[] letters = new int[960];
        for (int i = 0; i < 960; i++) letters[i] = x.text(0, i, 0);
        for (int bit = 0; bit < 8; bit++) {
            Check.due("mark", x.mark(0, 0, 960, bit % 4, 1 - bit / 4), 960);
            look("marked " + bit);
            for (int i = 0; i < 960; i++) {
                Check.due("letter " + i, x.text(0, i, 0), letters[i]);
                Check.due("marks " + i, x.text(0, i, 1), bit < 4 ? (2 << bit) - 1 : 15 & ~((2 << bit - 4) - 1));
            }
        }
    }

    private static void longTexts() throws Exception {
        x = new EditsMeet();
        grow(8);
        Check.due("length", x.length(4), 15728640);
        x.mark(1, 1000, 100000, 2, 1);
        x.mark(2, 5000, 100000, 2, 1);
        x.meet();
        look("marked");
        Check.due("marks", x.mark(3, 0, 15728640, 0, 1), 15728640 / 60 * 56);
        x.undo(3);
        look("many parts");
        throwAway("many parts");
        int live = count();
        Check.that("some thousand nodes do for millions of letters, not " + live, live < 20000);
    }

    /** So long that the sizes of nodes stand in the big rows, and what is thrown away gives them back. */
    private static void hugeTexts() throws Exception {
        x = new EditsMeet();
        grow(14);
        Check.due("length", x.length(4), Integer.MAX_VALUE);
        int free = (Integer) field(trees(), "freeBig");
        Check.that("there are big ones", free < 65536);
        look("huge");
        x.mark(1, 1000, Integer.MAX_VALUE - 1000, 2, 1);
        x.undo(1);
        x.mark(2, 77, Integer.MAX_VALUE - 100, 0, 1);
        look("huge, marked");
        throwAway("huge");
        x = new EditsMeet();
        throwAway("new");
        Check.due("none is big", (Integer) field(trees(), "freeBig"), 65536);
    }

    private static void grow(int rounds) {
        for (int i = 0; i < 60; i++) x.insert(0, i, i % 26, i % 7 == 0 ? i % 16 : 0);
        x.meet();
        x.image();
        x.cut(0, 0, 60);
        x.takes(0, 0, 0);
        x.takes(1, 0, 2);
        x.behind(7, 0, 1);
        x.back();
        for (int c = 0; c < 4; c++) x.does(c, 7);
        x.meet();
        for (int round = 0; round < rounds; round++) growOnce();
    }

    private static void growOnce() {
        for (int c = 0; c < 4; c++) x.takes(3 + c, c, 2);
        x.mark(0, 0, 1, 0, 1);
        for (int c = 0; c < 4; c++) x.does(0, 3 + c);
        x.takes(7, 0, 1);
        for (int c = 0; c < 4; c++) x.does(c, 7);
        x.meet();
    }

    // ---------------------------------------------------------------- joined and parted

    private static Object seam;
    private static Method join, leaf, partAt, settle;
    private static Object left, right, bare;

    /** However it is put together from its letters, or parted, and put together again, it is the same node. */
    private static void joinedAndParted() throws Exception {
        for (int seed = 0; seed < 600; seed++) {
            if (seed % 100 == 0) useSeam();
            random = new Random(seed);
            int n = 1 + random.nextInt(seed % 7 == 0 ? 1500 : 120);
            int[] acts = new int[n];
            int period = seed % 2 == 0 ? n : 1 + random.nextInt(12);
            int letters = 1 + random.nextInt(seed % 3 == 0 ? 3 : 26);
            for (int i = 0; i < n; i++) acts[i] = i < period ? random.nextInt(letters) : acts[i - period];
            for (int k = seed % 5; k < 3; k++) acts[random.nextInt(n)] = random.nextInt(26);
            int whole = joined(acts, 0, n);
            int fromLeft = 0;
            for (int i = 0; i < n; i++) fromLeft = join(fromLeft, leaf(acts[i]));
            Check.due("from the left, seed " + seed, fromLeft, whole);
            int fromRight = 0;
            for (int i = n - 1; i >= 0; i--) fromRight = join(leaf(acts[i]), fromRight);
            Check.due("from the right, seed " + seed, fromRight, whole);
            for (int k = 0; k < 5; k++) partSomewhere(acts, whole, "seed " + seed);
            if (seed % 50 == 0) look("joined, seed " + seed);
        }
    }

    private static void partSomewhere(int[] acts, int whole, String when) throws Exception {
        int n = acts.length;
        int p = random.nextInt(n + 1);
        int q = p + random.nextInt(n - p + 1);
        partAt.invoke(seam, 1, whole, (long) p);
        int one = settle(left, bare);
        int two = settle(bare, right);
        Check.due("its beginning, " + when, one, joined(acts, 0, p));
        Check.due("its end, " + when, two, joined(acts, p, n));
        Check.due("both, " + when, join(one, two), whole);
        partAt.invoke(seam, 1, two, (long) q - p);
        settle(left, bare);
        int three = settle(bare, right);
        int[] rest = new int[n - q + p];
        System.arraycopy(acts, 0, rest, 0, p);
        System.arraycopy(acts, q, rest, p, n - q);
        Check.due("without its middle, " + when, join(one, three), joined(rest, 0, rest.length));
    }

    private static int joined(int[] acts, int start, int end) throws Exception {
        if (start >= end) return 0;
        if (start + 1 == end) return leaf(acts[start]);
        int middle = start + 1 + random.nextInt(end - start - 1);
        int one = joined(acts, start, middle);
        return join(one, joined(acts, middle, end));
    }

    private static int join(int one, int two) throws Exception {
        return (Integer) join.invoke(seam, one, two);
    }

    private static int leaf(int act) throws Exception {
        return (Integer) leaf.invoke(trees(), act, 1L);
    }

    private static int settle(Object one, Object two) throws Exception {
        return (Integer) settle.invoke(seam, one, two);
    }

    private static void useSeam() throws Exception {
        x = new EditsMeet();
        seam = field(field(x, "loom"), "seam");
        left = field(seam, "left");
        right = field(seam, "right");
        bare = field(seam, "bare");
        join = method(seam, "join", int.class, int.class);
        leaf = method(trees(), "leaf", int.class, long.class);
        partAt = method(seam, "partAt", int.class, int.class, long.class);
        settle = method(seam, "settle", left.getClass(), left.getClass());
    }

    /** Edits and texts that differ in one letter, one mark or one number are never the same. */
    private static void unlikeOnes() throws Exception {
        random = new Random(9);
        for (int run = 0; run < 60; run++) {
            x = new EditsMeet();
            int n = 1 + random.nextInt(60);
            for (int i = 0; i < n; i++) {
                int letter = random.nextInt(26), marks = random.nextInt(16);
                x.insert(0, i, letter, marks);
                x.insert(1, i, letter, marks);
            }
            Check.due("alike", x.apart(0, 1), -1);
            for (int k = 0; k < 3; k++) {
                int p = random.nextInt(n);
                x.mark(1, p, 1, random.nextInt(4), 1 - (x.text(1, p, 1) & 1));
                int due = -1;
                for (int i = n - 1; i >= 0; i--) if (x.text(0, i, 1) != x.text(1, i, 1)) due = i;
                Check.due("apart", x.apart(0, 1), due);
                Check.due("apart", x.apart(1, 0), due);
                Check.due("one node or two", held(0, 0) == held(1, 0) ? 1 : 0, due < 0 ? 1 : 0);
            }
            look("unlike ones");
        }
    }

    /** What came of two is told of those two alone: of keys that differ in one bit, wherever it is, no other. */
    private static void whatIsRemembered() throws Exception {
        x = new EditsMeet();
        Object loom = field(x, "loom");
        int[] frames = (int[]) field(loom, "frames");
        Method remember = method(loom, "remember", int.class, int.class, int.class);
        Method remembered = method(loom, "remembered", int.class, int.class);
        Method keyOf = method(loom, "keyOf", int.class, int.class);
        random = new Random(4);
        long mask = (1L << 44) - 1;
        long spread = 0x9E3779B97F4A7C15L & mask;
        long inverse = 1;
        for (int k = 0; k < 6; k++) inverse = inverse * (2 - spread * inverse) & mask;
        for (int run = 0; run < 200; run++) {
            long key = random.nextLong() & mask;
            for (int bit = -1; bit < 44; bit++) {
                long mixed = bit < 0 ? key : key ^ 1L << bit;
                long told = (mixed ^ mixed >>> 22) * inverse & mask;
                frames[0] = (int) (told >> 23);
                frames[1] = (int) (told >> 2) & ID_MASK;
                int way = (int) told & 3;
                Check.that("the key", (Long) keyOf.invoke(loom, way, 0) == mixed);
                if (bit < 0) remember.invoke(loom, way, 0, run + 1);
                Check.due("bit " + bit, (Integer) remembered.invoke(loom, way, 0), bit < 0 ? run + 1 : -1);
            }
        }
    }

    // ---------------------------------------------------------------- looked into

    private static Object field(Object of, String name) throws Exception {
        Field field = of.getClass().getDeclaredField(name);
        field.setAccessible(true);
        return field.get(of);
    }

    private static Method method(Object of, String name, Class<?>... types) throws Exception {
        Method method = of.getClass().getDeclaredMethod(name, types);
        method.setAccessible(true);
        return method;
    }

    private static Object trees() throws Exception {
        return field(x, "trees");
    }

    private static void read() throws Exception {
        Object store = trees();
        shapes = (long[]) field(store, "shapes");
        sizes = (long[]) field(store, "sizes");
        bigFrom = (long[]) field(store, "bigFrom");
        bigTo = (long[]) field(store, "bigTo");
    }

    private static int left(int node) {
        return (int) (shapes[node] >> ID_BITS) & ID_MASK;
    }

    private static int right(int node) {
        return (int) shapes[node] & ID_MASK;
    }

    private static int level(int node) {
        return (int) (shapes[node] >> 2 * ID_BITS) & 511;
    }

    private static int leaves(int node) {
        return (int) (shapes[node] >>> 56);
    }

    private static boolean isRun(int node) {
        return node > ACTS && right(node) == 0;
    }

    private static int base(int node) {
        return isRun(node) ? left(node) : node;
    }

    private static long from(int node) {
        boolean isBig = (sizes[node] & 0xFFFFFFFFL) == 0xFFFFFFFFL;
        return isBig ? bigFrom[(int) (sizes[node] >>> 32)] : sizes[node] >>> 32;
    }

    private static long to(int node) {
        boolean isBig = (sizes[node] & 0xFFFFFFFFL) == 0xFFFFFFFFL;
        return isBig ? bigTo[(int) (sizes[node] >>> 32)] : sizes[node] & 0xFFFFFFFFL;
    }

    private static long times(int node) {
        return isRun(node) ? (from(node) + to(node)) / (from(left(node)) + to(left(node))) : 1;
    }

    private static int first(int node) {
        int at = node;
        while (at > ACTS) at = left(at);
        return at - 1;
    }

    private static int last(int node) {
        int at = node;
        while (at > ACTS) at = isRun(at) ? left(at) : right(at);
        return at - 1;
    }

    private static int held(int client, int slot) throws Exception {
        read();
        Object owner = ((Object[]) field(field(x, "meeting"), "clients"))[client];
        int work = ((int[]) field(field(x, "works"), "slots"))[(Integer) field(owner, "held") + slot];
        return ((int[]) field(field(x, "works"), "nodes"))[work];
    }

    private static int count() {
        int found = 0;
        for (int node = ACTS + 1; node < shapes.length; node++) found += shapes[node] != 0 ? 1 : 0;
        return found;
    }

    private static void look(String when) throws Exception {
        read();
        boolean isRight = true;
        boolean isPlain = true;
        boolean isOnce = true;
        Set<List<Long>> contents = new HashSet<>();
        Map<Long, Integer> made = new HashMap<>();
        for (int node = ACTS + 1; node < shapes.length; node++) {
            if (shapes[node] == 0) continue;
            isRight &= isRun(node) ? isRunRight(node) : isPairRight(node);
            if (!isRun(node)) isPlain &= isSeamPlain(left(node), right(node));
            long key = isRun(node) ? (long) left(node) << 40 | times(node) : (long) left(node) << 40 | 1L << 39 | right(node);
            isOnce &= made.put(key, node) == null;
            if (leaves(node) > FLAT_MOST) continue;
            List<Long> content = new ArrayList<>();
            flatten(node, content);
            isOnce &= contents.add(content);
        }
        Check.that("what nodes say, " + when, isRight);
        Check.that("plain, " + when, isPlain);
        Check.that("nothing twice, " + when, isOnce);
        Check.due("free, " + when, (Integer) field(trees(), "free"), shapes.length - 1 - ACTS - count());
        look(when, made);
    }

    /** What is held is what comes of looking at all its acts at once. */
    private static void look(String when, Map<Long, Integer> made) throws Exception {
        int known = 0;
        for (long word : (long[]) field(trees(), "known")) {
            for (int k = 0; k < 3; k++) known += (word >>> ID_BITS * k & ID_MASK) != 0 ? 1 : 0;
        }
        Check.due("each node is known, " + when, known, count());
        for (int node : (int[]) field(field(x, "works"), "nodes")) {
            if (node <= 0 || weight(node) > PARSED_MOST) continue;
            List<Long> content = new ArrayList<>();
            flatten(node, content);
            Check.due("made as its acts tell, " + when, parsed(content, made), node);
        }
    }

    private static long weight(int node) {
        if (node <= ACTS || isRun(node) && left(node) <= ACTS) return 1;
        if (isRun(node)) return Math.min(PARSED_MOST + 1L, times(node) * weight(left(node)));
        return leaves(node) < 255 ? leaves(node) : Math.min(PARSED_MOST + 1L, weight(left(node)) + weight(right(node)));
    }

    /** Acts and how often, all levels one by one; a run is the node of its base and a number. */
    private static int parsed(List<Long> content, Map<Long, Integer> made) {
        List<Integer> bases = new ArrayList<>();
        List<Long> counts = new ArrayList<>();
        for (int i = 0; i < content.size(); i += 2) {
            bases.add((int) (content.get(i) + 1));
            counts.add(content.get(i + 1));
        }
        for (int level = 0; bases.size() > 1 && level < 511; level++) {
            List<Integer> nextBases = new ArrayList<>();
            List<Long> nextCounts = new ArrayList<>();
            for (int i = 0; i < bases.size(); i++) {
                int base = bases.get(i);
                long n = counts.get(i);
                if (i + 1 < bases.size() && bit(base, level) == 0 && bit(bases.get(i + 1), level) == 1) {
                    int one = node(base, n, made);
                    i++;
                    base = made.getOrDefault((long) one << 40 | 1L << 39 | node(bases.get(i), counts.get(i), made), -1);
                    n = 1;
                    if (base < 0 || level(base) != level + 1) return -1;
                }
                int last = nextBases.size() - 1;
                if (last >= 0 && nextBases.get(last) == base) {
                    nextCounts.set(last, nextCounts.get(last) + n);
                } else {
                    nextBases.add(base);
                    nextCounts.add(n);
                }
            }
            bases = nextBases;
            counts = nextCounts;
        }
        return bases.size() == 1 ? node(bases.get(0), counts.get(0), made) : -1;
    }

    private static int node(int base, long n, Map<Long, Integer> made) {
        return n == 1 ? base : made.getOrDefault((long) base << 40 | n, 0);
    }

    private static int bit(int node, int level) {
        int mixed = (node ^ node >>> 16) * 0x7FEB352D;
        mixed = (mixed ^ mixed >>> 15) * 0x846CA68B;
        mixed ^= mixed >>> 16;
        return (mixed >>> (level / 2 % 32) ^ level) & 1;
    }

    private static boolean isRunRight(int node) {
        int base = left(node);
        long n = times(node);
        long most = base <= ACTS ? 1 : Math.min(255, Math.min(n, 255) * leaves(base));
        return base > 0 && shapes[base] != 0 && !isRun(base) && n >= 2
            && from(node) == n * from(base) && to(node) == n * to(base) && level(node) == level(base)
            && leaves(node) == most && endsRight(node, base, base)
            && (base <= ACTS ? isAct(base - 1) : last(base) != first(base));
    }

    private static boolean isPairRight(int node) {
        int one = left(node), two = right(node);
        boolean isLevel = level(node) > Math.max(level(one), level(two));
        // They became one as soon as their bits let them.
        for (int level = Math.max(level(one), level(two)); level < level(node); level++) {
            boolean become = bit(base(one), level) == 0 && bit(base(two), level) == 1;
            isLevel &= become == (level == level(node) - 1);
        }
        return one > 0 && shapes[one] != 0 && shapes[two] != 0 && base(one) != base(two) && isLevel
            && (one > ACTS || isAct(one - 1)) && (two > ACTS || isAct(two - 1))
            && from(node) == from(one) + from(two) && to(node) == to(one) + to(two)
            && leaves(node) == Math.min(255, leaves(one) + leaves(two)) && endsRight(node, one, two);
    }

    private static boolean endsRight(int node, int one, int two) {
        return (shapes[node] & BEGINS_WITH_LETTER) != 0 == first(one) < DELETE
            && (shapes[node] & ENDS_WITH_LETTER) != 0 == last(two) < DELETE
            && (shapes[node] & ENDS_WITH_DELETE) != 0 == (last(two) == DELETE)
            && (shapes[node] & HAS_DELETE) != 0 == (hasDelete(one) || hasDelete(two));
    }

    private static boolean hasDelete(int node) {
        return node <= ACTS ? node == DELETE + 1 : (shapes[node] & HAS_DELETE) != 0;
    }

    private static boolean isAct(int act) {
        int turned = act - KEEP;
        return act < DELETE && (act & 31) < 26 || act == DELETE || turned >= 0 && turned < 256 && (turned >> 4 & turned & 15) == 0;
    }

    private static boolean isSeamPlain(int one, int two) {
        return last(one) != first(two) && (last(one) != DELETE || first(two) >= DELETE);
    }

    private static void flatten(int node, List<Long> content) {
        if (node <= ACTS || isRun(node) && left(node) <= ACTS) {
            content.add((long) base(node) - 1);
            content.add(times(node));
        } else if (isRun(node)) {
            for (long k = 0; k < times(node); k++) flatten(left(node), content);
        } else {
            flatten(left(node), content);
            flatten(right(node), content);
        }
    }

    /** What nobody holds is thrown away, and all else is as it was. */
    private static void throwAway(String when) throws Exception {
        Object works = field(x, "works");
        int[] nodes = (int[]) field(works, "nodes");
        int hand = (Integer) field(field(x, "loom"), "hand");
        method(works, "letGo", int.class, int.class).invoke(works, hand, 6);
        method(works, "collect").invoke(works);
        method(works, "sweep").invoke(works);
        method(trees(), "tidy", int.class, int[].class, int[].class).invoke(trees(), 0, nodes, new int[0]);
        read();
        Set<Integer> reached = new HashSet<>();
        for (int node : nodes) reach(node, reached);
        Check.due("nothing else is left, " + when, count(), reached.size());
        Check.that("there was room, " + when, !(Boolean) method(trees(), "failed").invoke(trees()));
        int big = 0;
        for (int i = 0; i < bigFrom.length; i++) big += bigFrom[i] != 0 || bigTo[i] != 0 ? 1 : 0;
        Check.due("big ones, " + when, bigFrom.length - (Integer) field(trees(), "freeBig"), big);
        look("thrown away, " + when);
    }

    private static void reach(int node, Set<Integer> reached) {
        if (node <= ACTS || !reached.add(node)) return;
        reach(left(node), reached);
        reach(right(node), reached);
    }
}

import java.lang.management.ManagementFactory;
import java.lang.reflect.Array;
import java.lang.reflect.Field;
import java.lang.reflect.Modifier;
import java.util.ArrayList;
import java.util.IdentityHashMap;
import java.util.List;
import java.util.Map;
import java.util.Random;

/**
 * All calls of a run live in one room, from which nothing is given back. So all that an object needs
 * is made with it, and counts once; a call makes nothing at all, whatever calls were ahead of it.
 */
public final class RoomTest {
    /** The room has 600,000 objects and 7,300,000 fields and elements: an object leaves a tenth of it at least. */
    private static final long OBJECTS_MOST = 1_000;
    private static final long ELEMENTS_MOST = 6_570_000;
    private static final int KINDS = 12;

    private static final com.sun.management.ThreadMXBean BEAN =
        (com.sun.management.ThreadMXBean) ManagementFactory.getThreadMXBean();
    private static final long THREAD = Thread.currentThread().getId();

    private static EditsMeet x;
    private static long ahead;
    private static long dearest;
    private static long made;

    public static void main(String[] args) throws Exception {
        x = new EditsMeet();
        count("a new object");
        for (int kind = 0; kind < KINDS; kind++) {
            // The Java machine makes some bytes of its own now and then, but not each time.
            long least = Long.MAX_VALUE;
            for (int time = 0; time < 4 && least > 0; time++) {
                run(kind);
                least = Math.min(least, made);
            }
            System.out.println("run " + kind + ": " + made + " bytes in all, " + dearest + " in the dearest call");
            Check.due("run " + kind + " makes nothing", least, 0);
            count("after run " + kind);
            if (kind == 5 || kind == 6) Check.due("its text is long", x.length(4), 15728640);
            if (kind == 8) Check.due("its text is long", x.length(4), 2147483647);
            if (kind == 8 || kind == 9) Check.that("there are many parts, not " + x.of(11, 0), x.of(11, 0) > 1000000);
        }
        Check.end();
    }

    private static void run(int kind) {
        x = new EditsMeet();
        made = 0;
        dearest = 0;
        Random random = new Random(kind);
        ahead = BEAN.getThreadAllocatedBytes(THREAD);
        for (int call = 0; call < 512; call++) {
            switch (kind) {
                case 0: x.days(60); break;
                case 1: if (call % 8 == 7) x.meet(); else x.days(60); break;
                case 2: keepAndBringBack(call); break;
                case 3: algebra(call); break;
                case 4: undoAndRedo(call); break;
                case 5: grow(call, 1, 8); break;
                case 6: grow(call, 60, 8); break;
                case 7: ask(call); break;
                case 8: manyParts(call, 14); break;
                case 9: manyParts(call, 8); break;
                case 10: disturb(call, random); break;
                default: rows(call);
            }
            weigh();
        }
    }

    private static void weigh() {
        long now = BEAN.getThreadAllocatedBytes(THREAD);
        made += now - ahead;
        dearest = Math.max(dearest, now - ahead);
        ahead = BEAN.getThreadAllocatedBytes(THREAD);
    }

    private static void keepAndBringBack(int call) {
        if (call % 4 == 0) x.days(60);
        else if (call % 4 == 1) x.image();
        else if (call % 4 == 2) x.meet();
        else if (call % 8 == 3) x.back();
    }

    private static void algebra(int call) {
        if (call < 100) x.feed(call % 2 == 0 ? '+' : 'a' + call % 26);
        else if (call == 100) x.edit(0);
        else if (call == 101) x.takes(1, 0, 0);
        else if (call % 5 == 0) x.behind(call % 12, 0, call % 12);
        else if (call % 5 == 1) x.over(call % 12, 0, 0, call % 2);
        else if (call % 5 == 2) x.over(0, 0, 0, 1);
        else if (call % 5 == 3) x.turned(call % 12, 0, 0);
        else x.spelled(0, call);
    }

    private static void undoAndRedo(int call) {
        if (call < 40) x.insert(call % 4, 0, call % 26, call % 16);
        else if (call % 3 == 0) x.undo(call % 4);
        else if (call % 3 == 1) x.redo(call % 4);
        else x.meet();
    }

    /** The text becomes four times as long every 15 calls; of letters that have marks or have none. */
    private static void grow(int call, int marked, int rounds) {
        int late = call - 100;
        if (call < 60) x.insert(0, 0, call % 15, call % marked == 0 ? 0 : call % 16);
        else if (call == 60) x.meet();
        else if (call == 61) x.image();
        else if (call == 62) x.cut(0, 0, 60);
        else if (call == 63) x.takes(0, 0, 0);
        else if (call == 64) x.takes(1, 0, 2);
        else if (call == 65) x.behind(7, 0, 1);
        else if (call == 66) x.back();
        else if (call < 71) x.does(call % 4, 7);
        else if (call == 71) x.meet();
        else if (late < 0 || late >= 15 * rounds) ask(call);
        else if (late % 15 < 4) x.takes(3 + late % 15, late % 15, 2);
        else if (late % 15 == 4) x.mark(0, 0, 1, 0, 1);
        else if (late % 15 < 9) x.does(0, late % 15 - 2);
        else if (late % 15 == 9) x.takes(7, 0, 1);
        else if (late % 15 < 14) x.does(late % 15 - 10, 7);
        else x.meet();
    }

    /** Marks on all of a long text whose letters have them by turns; undone, done again, sent and heard. */
    private static void manyParts(int call, int rounds) {
        int late = call - 100 - 15 * rounds;
        if (late < 0) {
            grow(call, 60, rounds);
            return;
        }
        int c = call % 4;
        int n = x.length(c);
        switch (late % 9) {
            case 0: x.mark(c, 0, n, late % 4, late / 9 % 2); break;
            case 1: x.undo(0); break;
            case 2: x.redo(0); break;
            case 3: x.serve(c); break;
            case 4: x.hear(c); break;
            case 5: x.takes(11, 0, late < 30 ? 2 : 3); break;
            case 6: x.spelled(11, 1000000 + call); break;
            case 7: if (late > 100) x.meet(); else x.differ(10, 11); break;
            default: x.part(11, 1000000 + call, 1);
        }
        if (late == 30) x.takes(11, 0, 2);
    }

    /** Marks, cuts and undoing at places by draws, while the text becomes long. */
    private static void disturb(int call, Random random) {
        int late = call - 100;
        if (late < 0 || late % 20 < 15 && late < 260) {
            grow(late < 0 ? call : 100 + late / 20 * 15 + late % 20, 7, 13);
            return;
        }
        int c = random.nextInt(4);
        int n = Math.max(1, x.length(c));
        int p = random.nextInt(n);
        switch (random.nextInt(5)) {
            case 0: x.undo(c); break;
            case 1: x.redo(c); break;
            case 2: if (late % 20 == 19) x.meet(); else x.cut(c, p, 1); break;
            default: x.mark(c, p, 1 + random.nextInt(n - p), random.nextInt(4), random.nextInt(2));
        }
        if (late % 20 == 19) x.meet();
    }

    private static void rows(int call) {
        if (call % 7 == 0) x.row(call % 8, call % 5, 40);
        else if (call % 7 == 1) x.set(call % 8, call % 40, call);
        else if (call % 7 == 2) x.copy(call % 8, (call + 5) % 8, 0, 0, 40);
        else if (call % 7 == 3) x.element(call % 8, 3);
        else if (call % 7 == 4) x.holds(call % 8);
        else if (call % 7 == 5) x.judge(call % 5, call % 8, 20);
        else if (call % 14 == 6) x.edit(call % 12);
        else x.feed(call % 256);
    }

    private static void ask(int call) {
        if (call < 40) x.days(60);
        else if (call < 60) x.row(call % 8, call % 5, 40);
        else if (call % 4 == 0) x.takes(call % 12, call % 4, 2);
        else if (call % 4 == 1) x.show(call % 8, call % 12, 0);
        else if (call % 4 == 2) x.revision(call % 12, 1 + call % 9);
        else x.judge(call % 5, call % 8, 5);
    }

    // ---------------------------------------------------------------- counted

    /** Counts the objects and arrays that the object has, and their fields and elements. */
    private static void count(String when) throws Exception {
        Map<Object, Boolean> seen = new IdentityHashMap<>();
        List<Object> open = new ArrayList<>();
        open.add(x);
        seen.put(x, true);
        long elements = 0;
        while (!open.isEmpty()) {
            Object one = open.remove(open.size() - 1);
            if (one.getClass().isArray()) {
                int n = Array.getLength(one);
                elements += n;
                if (one.getClass().getComponentType().isPrimitive()) continue;
                for (int i = 0; i < n; i++) see(Array.get(one, i), seen, open);
            } else if (one instanceof ArrayList) {
                elements += 4 + 2 * ((ArrayList<?>) one).size();
                for (Object held : (ArrayList<?>) one) see(held, seen, open);
            } else {
                for (Field field : one.getClass().getDeclaredFields()) {
                    if (Modifier.isStatic(field.getModifiers())) continue;
                    elements++;
                    field.setAccessible(true);
                    if (!field.getType().isPrimitive()) see(field.get(one), seen, open);
                }
            }
        }
        if (when.equals("a new object")) System.out.println(when + ": " + seen.size() + " objects, " + elements + " elements");
        Check.that(when + " there are few objects, not " + seen.size(), seen.size() <= OBJECTS_MOST);
        Check.that(when + " there are few elements, not " + elements, elements <= ELEMENTS_MOST);
    }

    private static void see(Object held, Map<Object, Boolean> seen, List<Object> open) {
        if (held != null && seen.put(held, true) == null) open.add(held);
    }
}

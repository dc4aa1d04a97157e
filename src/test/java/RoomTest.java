import java.lang.management.ManagementFactory;

/**
 * All calls of a run live in one room, from which nothing is given back: what a run of 512 dear
 * calls allocates must stay small, and a new object must be cheap.
 */
public final class RoomTest {
    private static final long NEW_OBJECT_BYTES = 60_000;
    private static final long RUN_BYTES = 600_000;

    private static final com.sun.management.ThreadMXBean BEAN =
        (com.sun.management.ThreadMXBean) ManagementFactory.getThreadMXBean();

    private static EditsMeet x;

    public static void main(String[] args) {
        for (int warm = 0; warm < 3; warm++) {
            for (int kind = 0; kind < 8; kind++) run(kind);
        }
        long made = 0;
        for (int k = 0; k < 10; k++) {
            long ahead = allocated();
            x = new EditsMeet();
            made = allocated() - ahead;
        }
        System.out.println("a new object: " + made + " bytes");
        Check.that("a new object takes little room", made < NEW_OBJECT_BYTES);
        for (int kind = 0; kind < 8; kind++) {
            long ahead = allocated();
            run(kind);
            long took = allocated() - ahead;
            System.out.println("run " + kind + ": " + took + " bytes");
            Check.that("run " + kind + " takes little room", took < RUN_BYTES);
            if (kind == 5 || kind == 6) Check.due("its text is long", x.length(4), 245760);
        }
        Check.end();
    }

    private static long allocated() {
        return BEAN.getThreadAllocatedBytes(Thread.currentThread().getId());
    }

    private static void run(int kind) {
        x = new EditsMeet();
        for (int call = 0; call < 512; call++) {
            switch (kind) {
                case 0: x.days(60); break;
                case 1: if (call % 8 == 7) x.meet(); else x.days(60); break;
                case 2: keepAndBringBack(call); break;
                case 3: algebra(call); break;
                case 4: undoAndRedo(call); break;
                case 5: grow(call, 1); break;
                case 6: grow(call, 60); break;
                default: ask(call);
            }
        }
    }

    private static void keepAndBringBack(int call) {
        if (call % 4 == 0) x.days(60);
        else if (call % 4 == 1) x.image();
        else if (call % 4 == 2) x.meet();
        else if (call % 8 == 3) x.back();
    }

    private static void algebra(int call) {
        if (call < 100) x.feed(call % 2 == 0 ? '+' : 'a' + call % 26);
        else if (call == 100) x.edit(0);
        else if (call == 101) x.takes(1, 0, 0);
        else if (call % 5 == 0) x.behind(call % 12, 0, call % 12);
        else if (call % 5 == 1) x.over(call % 12, 0, 0, call % 2);
        else if (call % 5 == 2) x.over(0, 0, 0, 1);
        else if (call % 5 == 3) x.turned(call % 12, 0, 0);
        else x.spelled(0, call);
    }

    private static void undoAndRedo(int call) {
        if (call < 40) x.insert(call % 4, 0, call % 26, call % 16);
        else if (call % 3 == 0) x.undo(call % 4);
        else if (call % 3 == 1) x.redo(call % 4);
        else x.meet();
    }

    /** The text becomes four times as long every 15 calls; of letters that have marks or have none. */
    private static void grow(int call, int marked) {
        int late = call - 100;
        if (call < 60) x.insert(0, 0, call % 15, call % marked == 0 ? 0 : call % 16);
        else if (call == 60) x.meet();
        else if (call == 61) x.image();
        else if (call == 62) x.cut(0, 0, 60);
        else if (call == 63) x.takes(0, 0, 0);
        else if (call == 64) x.takes(1, 0, 2);
        else if (call == 65) x.behind(7, 0, 1);
        else if (call == 66) x.back();
        else if (call < 71) x.does(call % 4, 7);
        else if (call == 71) x.meet();
        else if (late < 0 || late >= 75) ask(call);
        else if (late % 15 < 4) x.takes(3 + late % 15, late % 15, 2);
        else if (late % 15 == 4) x.mark(0, 0, 1, 0, 1);
        else if (late % 15 < 9) x.does(0, late % 15 - 2);
        else if (late % 15 == 9) x.takes(7, 0, 1);
        else if (late % 15 < 14) x.does(late % 15 - 10, 7);
        else x.meet();
    }

    private static void ask(int call) {
        if (call < 40) x.days(60);
        else if (call < 60) x.row(call % 8, call % 5, 40);
        else if (call % 4 == 0) x.takes(call % 12, call % 4, 2);
        else if (call % 4 == 1) x.show(call % 8, call % 12, 0);
        else if (call % 4 == 2) x.revision(call % 12, 1 + call % 9);
        else x.judge(call % 5, call % 8, 5);
    }
}

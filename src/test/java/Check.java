/** Counts answers that are due and tells the others. */
final class Check {
    private static int right = 0;
    private static int wrong = 0;

    private Check() {
    }

    static void due(String call, long got, long want) {
        if (got == want) {
            right++;
            return;
        }
        wrong++;
        if (wrong <= 50) System.out.println(call + " answered " + got + ", due is " + want);
    }

    static void same(String call, String got, String want) {
        due(call + " (" + got + " for " + want + ")", got.equals(want) ? 1 : 0, 1);
    }

    static void that(String claim, boolean holds) {
        due(claim, holds ? 1 : 0, 1);
    }

    static void end() {
        System.out.println(right + " answers as due, " + wrong + " not");
        if (wrong != 0) System.exit(1);
    }
}

/** Counts answers that are due, promise by promise. */
final class Check {
    private static String part = "";
    private static int passed = 0;
    private static int failed = 0;

    private Check() {
    }

    static void part(String name) {
        part = name;
    }

    static void due(String call, long got, long want) {
        if (got == want) {
            passed++;
        } else {
            fail(call + " answered " + got + ", due is " + want);
        }
    }

    static void holds(String what, boolean is) {
        if (is) {
            passed++;
        } else {
            fail(what);
        }
    }

    private static void fail(String what) {
        failed++;
        System.out.println(part + ": " + what);
    }

    /** The closing line, and whether nothing failed. */
    static boolean close() {
        System.out.println(passed + " passed, " + failed + " failed");
        return failed == 0 && passed > 0;
    }
}

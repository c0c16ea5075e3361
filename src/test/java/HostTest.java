/** Promises 26 to 28: the host's sheets. What they hold is read by holding it against ways. */
final class HostTest {
    private HostTest() {
    }

    static void run() {
        sheet();
        cell();
        copy();
        copyAsTheyWere();
        copyRefuses();
    }

    /** From a router that has no links: 0 to itself, NONE to all others. */
    private static boolean holds(LinkRouter x, int sheet, int... row) {
        for (int i = 0; i < row.length; i++) {
            // A row of one, looked at from 0: 0 is told by 0 alone, NONE by another.
            x.sheet(3, 0, 1);
            if (x.copy(sheet, i, 3, 0, 1) != 1) {
                return false;
            }
            int by = x.tells(3, 0, 1);
            int due = row[i] == 0 ? 1 : row[i] == -1 ? 0xFE : 0;
            if (by != due) {
                return false;
            }
        }
        return x.cell(sheet, row.length, 0) == -12;
    }

    private static void sheet() {
        Check.part("promise 26");
        LinkRouter x = new LinkRouter();
        Check.due("shorts", x.sheet(0, 0, 3), 1);
        Check.holds("three, all 0", holds(x, 0, 0, 0, 0));
        x.cell(0, 1, -1);
        Check.holds("an item is otherwise", holds(x, 0, 0, -1, 0));
        Check.due("anew", x.sheet(0, 0, 4), 1);
        Check.holds("four, all 0", holds(x, 0, 0, 0, 0, 0));
        Check.due("the largest", x.sheet(0, 1, 40), 1);
        Check.due("its last", x.cell(0, 39, 1), 1);
        Check.due("none behind it", x.cell(0, 40, 1), -12);
        Check.due("the smallest", x.sheet(0, 1, 0), 1);
        Check.due("it has none", x.cell(0, 0, 1), -12);
        Check.due("missing, whatever n", x.sheet(0, -1, 99), 1);
        Check.due("missing, whatever n", x.sheet(0, -1, -99), 1);
        Check.due("it is missing", x.cell(0, 0, 1), -11);
        x.sheet(0, 0, 2);
        Check.due("no such sheet", x.sheet(4, 0, 1), -2);
        Check.due("no such sheet", x.sheet(-1, 0, 1), -2);
        Check.due("no such sheet, missing", x.sheet(4, -1, 1), -2);
        Check.due("no such sort", x.sheet(0, 2, 1), -2);
        Check.due("no such sort", x.sheet(0, -2, 1), -2);
        Check.due("no such sort goes before a size", x.sheet(0, 2, -1), -2);
        Check.due("too large", x.sheet(0, 0, 41), -2);
        Check.due("a size below 0", x.sheet(0, 0, -1), -14);
        Check.due("a size below 0", x.sheet(0, 1, Integer.MIN_VALUE), -14);
        Check.holds("it is as it was", holds(x, 0, 0, 0));
    }

    private static void cell() {
        Check.part("promise 27");
        LinkRouter x = new LinkRouter();
        x.sheet(0, 0, 2);
        Check.due("cell", x.cell(0, 0, -1), 1);
        Check.holds("the item alone", holds(x, 0, -1, 0));
        Check.due("cell", x.cell(0, 1, 65535), 1);
        Check.holds("of shorts its lowest bits", holds(x, 0, -1, -1));
        Check.due("cell", x.cell(0, 0, 65536), 1);
        Check.holds("of shorts its lowest bits", holds(x, 0, 0, -1));
        Check.due("cell", x.cell(0, 0, 32768), 1);
        Check.holds("neither 0 nor -1", holds(x, 0, 5, -1));
        x.sheet(1, 1, 1);
        x.cell(1, 0, 65536);
        Check.due("of ints all bits", x.tells(1, 0, 0), 0);
        x.cell(1, 0, 65535);
        Check.due("of ints all bits", x.tells(1, 1, 0), 0);
        Check.due("outside", x.cell(0, 2, 0), -12);
        Check.due("outside", x.cell(0, -1, 0), -12);
        Check.due("outside", x.cell(0, Integer.MAX_VALUE, 0), -12);
        Check.due("missing", x.cell(2, 0, 0), -11);
        Check.due("missing goes before outside", x.cell(2, -1, 0), -11);
        Check.due("no such sheet", x.cell(4, 0, 0), -2);
        Check.due("no such sheet", x.cell(-1, 0, 0), -2);
    }

    private static LinkRouter rows() {
        LinkRouter x = new LinkRouter();
        x.sheet(0, 0, 3);
        x.cell(0, 0, -1);
        x.cell(0, 1, 7);
        x.sheet(1, 0, 4);
        return x;
    }

    private static void copy() {
        Check.part("promise 28");
        LinkRouter x = rows();
        Check.due("two", x.copy(0, 0, 1, 2, 2), 2);
        Check.holds("they came", holds(x, 1, 0, 0, -1, 7));
        Check.holds("they stay", holds(x, 0, -1, 7, 0));
        Check.due("all", x.copy(0, 0, 1, 0, 3), 3);
        Check.holds("they came", holds(x, 1, -1, 7, 0, 7));
        Check.due("none", x.copy(0, 0, 1, 0, 0), 0);
        Check.due("none at the end", x.copy(0, 3, 1, 4, 0), 0);
        Check.holds("nothing came", holds(x, 1, -1, 7, 0, 7));
    }

    private static void copyAsTheyWere() {
        Check.part("promise 28");
        LinkRouter x = rows();
        Check.due("within one, on", x.copy(0, 0, 0, 1, 2), 2);
        Check.holds("as they were", holds(x, 0, -1, -1, 7));
        LinkRouter y = rows();
        Check.due("within one, back", y.copy(0, 1, 0, 0, 2), 2);
        Check.holds("as they were", holds(y, 0, 7, 0, 0));
    }

    private static void copyRefuses() {
        Check.part("promise 28");
        LinkRouter x = rows();
        x.sheet(2, 1, 4);
        Check.due("no such sheet", x.copy(4, 0, 0, 0, 1), -2);
        Check.due("no such sheet", x.copy(-1, 0, 0, 0, 1), -2);
        Check.due("no such sheet", x.copy(0, 0, 4, 0, 1), -2);
        Check.due("no such sheet", x.copy(0, 0, -1, 0, 1), -2);
        Check.due("no such sheet goes before a missing one", x.copy(3, 0, 4, 0, 1), -2);
        Check.due("missing", x.copy(3, 0, 0, 0, 1), -11);
        Check.due("missing", x.copy(0, 0, 3, 0, 1), -11);
        Check.due("missing goes before a place", x.copy(0, 0, 3, -1, 1), -11);
        Check.due("unlike", x.copy(0, 0, 2, 0, 1), -13);
        Check.due("unlike goes before a place", x.copy(2, 9, 0, 0, 1), -13);
        int[][] outside = {
            {0, -1, 1}, {-1, 0, 1}, {0, 0, -1}, {0, 0, 4}, {1, 0, 3}, {0, 2, 3}, {3, 0, 1}, {4, 0, 0}, {0, 5, 0},
            {Integer.MAX_VALUE, 0, 1}, {0, Integer.MAX_VALUE, 1}, {1, 1, Integer.MAX_VALUE}, {1, 1, Integer.MIN_VALUE},
        };
        for (int[] o : outside) {
            Check.due("copy" + java.util.Arrays.toString(o), x.copy(0, o[0], 1, o[1], o[2]), -12);
        }
        Check.holds("nothing came", holds(x, 1, 0, 0, 0, 0));
    }
}

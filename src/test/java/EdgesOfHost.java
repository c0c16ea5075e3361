/** Promises 26 to 28: the edges of the host's sheets. */
final class EdgesOfHost {
    private static final int[] NO_SHEETS = {-1, 4, Integer.MIN_VALUE, Integer.MAX_VALUE};

    private EdgesOfHost() {
    }

    static void run() {
        missingAtFirst();
        fourSheets();
        sorts();
        becomesARow();
        becomesMissing();
        sheetRefuses();
        aboveForty();
        sizeBelowNone();
        cell();
        cellOfShorts();
        cellRefuses();
        cellMissing();
        cellOutside();
        copy();
        copyAsTheyWere();
        copyOfNone();
        copyRefuses();
        copyMissing();
        copyUnlike();
        copyOutside();
    }

    /** From 0, 1, 2 it costs 0, 1, 3 to 0; from all others there is no way: by that items are read. */
    private static Run readable() {
        return Scenes.triangle();
    }

    private static Run row(Run x, int sheet, int sort, int... row) {
        x.then("sheet", sheet, sort, row.length);
        for (int i = 0; i < row.length; i++) {
            x.then("cell", sheet, i, row[i]);
        }
        return x;
    }

    /** What a sheet holds; of other numbers than 0, 1, 3 and -1 it is known that they are none of these. */
    private static Run holds(Run x, int sheet, int sort, int... due) {
        int spare = (sheet + 1) % 4;
        Run read = x.again().then("sheet", spare, sort, 1);
        for (int i = 0; i < due.length; i++) {
            int bits = due[i] == -1 ? 0xF8 : due[i] == 0 ? 1 : due[i] == 1 ? 2 : due[i] == 3 ? 4 : 0;
            read.due(1, "copy", sheet, i, spare, 0, 1).due(bits, "tells", spare, 0, 1);
        }
        read.due(-12, "cell", sheet, due.length, 0);
        return x;
    }

    private static void missingAtFirst() {
        Edges.of("Terms", "or missing (as all are at first)");
        for (int sheet = 0; sheet <= 3; sheet++) {
            new Run().leaves(-11, "cell", sheet, 0, 0).leaves(-11, "tells", sheet, 0, 0).leaves(-11, "copy", sheet, 0, sheet, 0, 0);
        }
    }

    private static void fourSheets() {
        Edges.of("Terms", "SHEETS 0 .. 3 are rows of numbers");
        Run x = readable();
        for (int sheet = 0; sheet <= 3; sheet++) {
            row(x, sheet, 1, sheet % 2, 3, -1);
        }
        for (int sheet = 0; sheet <= 3; sheet++) {
            holds(x, sheet, 1, sheet % 2, 3, -1);
        }
        for (int none : NO_SHEETS) {
            x.leaves(-2, "sheet", none, 1, 1).leaves(-2, "sheet", none, -1, 1).leaves(-2, "cell", none, 0, 0);
            x.leaves(-2, "copy", none, 0, 0, 0, 1).leaves(-2, "copy", 0, 0, none, 0, 1);
            x.leaves(-2, "film", none, 0).leaves(-2, "tells", none, 0, 0);
        }
    }

    private static void sorts() {
        Edges.of("Terms", "of sort 0 shorts, 1 ints.");
        Run x = row(row(readable(), 0, 0, 65536, 65535), 1, 1, 65536, 65535);
        holds(holds(x, 0, 0, 0, -1), 1, 1, 65536, 65535);
        x.leaves(-13, "copy", 0, 0, 1, 0, 1).leaves(-13, "copy", 1, 0, 0, 0, 1);
    }

    private static void becomesARow() {
        Edges.of("Promise 26", "A SHEET becomes a row of n of a sort, all 0");
        for (int sort = 0; sort <= 1; sort++) {
            Run x = readable().due(1, "sheet", 0, sort, 0).leaves(-12, "cell", 0, 0, 1);
            x.due(1, "sheet", 3, sort, 40).due(1, "cell", 3, 39, 1).leaves(-12, "cell", 3, 40, 1);
            x.due(1, "sheet", 3, sort, 1).due(1, "cell", 3, 0, 3).leaves(-12, "cell", 3, 1, 1);
            x.due(1, "sheet", 3, 1 - sort, 40);
            holds(x, 3, 1 - sort, new int[40]);
            row(x, 3, sort, 1, 3, -1).due(1, "sheet", 3, sort, 3);
            holds(x, 3, sort, 0, 0, 0);
        }
    }

    private static void becomesMissing() {
        Edges.of("Promise 26", "or missing (sort -1: n does not matter): 1.");
        int[] sizes = {0, 1, 40, 41, -1, Integer.MIN_VALUE, Integer.MAX_VALUE};
        for (int n : sizes) {
            Run x = row(readable(), 0, 1, 1, 3).due(1, "sheet", 0, -1, n).leaves(-11, "cell", 0, 0, 1).leaves(1, "sheet", 0, -1, n);
            x.due(1, "sheet", 0, 1, 3);
            holds(x, 0, 1, 0, 0, 0);
        }
    }

    private static void sheetRefuses() {
        Edges.of("Promise 26", "BAD: no such SHEET, sort");
        Run x = Scenes.busy();
        for (int none : NO_SHEETS) {
            x.leaves(-2, "sheet", none, 0, 1).leaves(-2, "sheet", none, -1, 0);
        }
        int[] sorts = {-2, 2, Integer.MIN_VALUE, Integer.MAX_VALUE};
        for (int sort : sorts) {
            x.leaves(-2, "sheet", 0, sort, 1).leaves(-2, "sheet", 2, sort, 1);
        }
    }

    private static void aboveForty() {
        Edges.of("Promise 26", "n above 40");
        int[] sizes = {41, 42, 1 << 16, Integer.MAX_VALUE};
        for (int n : sizes) {
            Scenes.busy().leaves(-2, "sheet", 0, 0, n).leaves(-2, "sheet", 2, 1, n);
        }
        Scenes.busy().due(1, "sheet", 0, 0, 40).due(1, "sheet", 2, 1, 40);
    }

    private static void sizeBelowNone() {
        Edges.of("Promise 26", "-14.");
        int[] sizes = {-1, -2, -40, Integer.MIN_VALUE};
        for (int n : sizes) {
            Scenes.busy().leaves(-14, "sheet", 0, 0, n).leaves(-14, "sheet", 2, 1, n);
        }
        Scenes.busy().due(1, "sheet", 0, 0, 0).due(1, "sheet", 2, 1, 0);
    }

    private static void cell() {
        Edges.of("Promise 27", "Item i of a SHEET becomes v");
        Run x = readable().then("sheet", 0, 1, 3).due(1, "cell", 0, 0, 1).due(1, "cell", 0, 2, 3);
        holds(x, 0, 1, 1, 0, 3);
        holds(x.due(1, "cell", 0, 0, -1).due(1, "cell", 0, 2, 0), 0, 1, -1, 0, 0);
        holds(x.due(1, "cell", 0, 1, Integer.MAX_VALUE).due(1, "cell", 0, 2, Integer.MIN_VALUE), 0, 1, -1, 77, 77);
        x.then("sheet", 3, 0, 40).due(1, "cell", 3, 39, 3);
        int[] due = new int[40];
        due[39] = 3;
        holds(x, 3, 0, due);
    }

    private static void cellOfShorts() {
        Edges.of("Promise 27", "(of shorts its lowest 16 bits): 1.");
        Run x = row(readable(), 0, 0, 65535, 65536, 65537, -65536, -65535, -65533, 32768, -32768, 32767, 131071);
        holds(x, 0, 0, -1, 0, 1, 0, 1, 3, 77, 77, 77, -1);
        holds(row(x, 0, 0, Integer.MAX_VALUE, Integer.MIN_VALUE, 0x7FFF0003), 0, 0, -1, 0, 3);
        holds(row(x, 0, 1, 65535, 65536, 65537, Integer.MAX_VALUE, Integer.MIN_VALUE), 0, 1, 77, 77, 77, 77, 77);
    }

    private static void cellRefuses() {
        Edges.of("Promise 27", "BAD: no such SHEET; -11; -12.");
        for (int none : NO_SHEETS) {
            Scenes.busy().leaves(-2, "cell", none, 0, 5).leaves(-2, "cell", none, -1, 5);
        }
    }

    private static void cellMissing() {
        Edges.of("Promise 27", "-11; -12.");
        Run x = Scenes.busy().leaves(-11, "cell", 2, 0, 5).leaves(-11, "cell", 2, -1, 5).leaves(-11, "cell", 2, 40, 5);
        x.then("sheet", 0, -1, 0).leaves(-11, "cell", 0, 0, 5);
    }

    private static void cellOutside() {
        Edges.of("Promise 27", "-12.");
        Run x = Scenes.busy();
        int[][] outside = {
            {0, -1}, {0, 8}, {1, 3}, {1, -1}, {3, 40}, {3, -1}, {3, 41}, {0, Integer.MAX_VALUE}, {0, Integer.MIN_VALUE},
        };
        for (int[] o : outside) {
            x.leaves(-12, "cell", o[0], o[1], 5);
        }
        x.then("sheet", 0, 1, 0).leaves(-12, "cell", 0, 0, 5);
    }

    private static void copy() {
        Edges.of("Promise 28", "n numbers of a SHEET, from item i on, come to another one's item j on");
        Run x = row(readable(), 0, 0, -1, 1, 3).then("sheet", 3, 0, 40).due(3, "copy", 0, 0, 3, 37, 3).due(1, "copy", 0, 1, 3, 0, 1);
        int[] due = new int[40];
        due[0] = 1;
        due[37] = -1;
        due[38] = 1;
        due[39] = 3;
        holds(holds(x, 3, 0, due), 0, 0, -1, 1, 3);
        x.due(2, "copy", 3, 38, 0, 0, 2);
        holds(holds(x, 0, 0, 1, 3, 3), 3, 0, due);
        x.then("sheet", 1, 0, 40).due(40, "copy", 3, 0, 1, 0, 40);
        holds(x, 1, 0, due);
    }

    private static void copyAsTheyWere() {
        Edges.of("Promise 28", "(as they were): n.");
        holds(row(readable(), 0, 1, -1, 1, 3, 0).due(3, "copy", 0, 0, 0, 1, 3), 0, 1, -1, -1, 1, 3);
        holds(row(readable(), 0, 1, -1, 1, 3, 0).due(3, "copy", 0, 1, 0, 0, 3), 0, 1, 1, 3, 0, 0);
        holds(row(readable(), 0, 1, -1, 1, 3, 0).leaves(4, "copy", 0, 0, 0, 0, 4), 0, 1, -1, 1, 3, 0);
        holds(row(readable(), 0, 0, -1, 1, 3, 0).due(2, "copy", 0, 0, 0, 2, 2), 0, 0, -1, 1, -1, 1);
    }

    private static void copyOfNone() {
        Edges.of("Promise 28", "n numbers of a SHEET");
        Run x = row(row(readable(), 0, 1, -1, 1), 1, 1, 3).leaves(0, "copy", 0, 0, 1, 0, 0).leaves(0, "copy", 0, 1, 1, 0, 0);
        x.then("sheet", 2, 1, 0).leaves(0, "copy", 2, 0, 2, 0, 0).leaves(0, "copy", 2, 0, 0, 0, 0).leaves(-12, "copy", 2, 0, 0, 0, 1);
        x.leaves(-12, "copy", 0, 0, 2, 0, 1);
    }

    private static void copyRefuses() {
        Edges.of("Promise 28", "BAD: no such SHEET; -11");
        for (int none : NO_SHEETS) {
            Run x = Scenes.busy().leaves(-2, "copy", none, 0, 0, 0, 1).leaves(-2, "copy", 0, 0, none, 0, 1);
            x.leaves(-2, "copy", none, 0, none, 0, 0).leaves(-2, "copy", 2, 0, none, 0, 1).leaves(-2, "copy", none, -1, 2, 0, -1);
        }
    }

    private static void copyMissing() {
        Edges.of("Promise 28", "-11; -13: they are of unlike sorts");
        Run x = Scenes.busy();
        x.leaves(-11, "copy", 2, 0, 0, 0, 1).leaves(-11, "copy", 0, 0, 2, 0, 1).leaves(-11, "copy", 2, 0, 2, 0, 0);
        x.leaves(-11, "copy", 2, 0, 1, 0, 0).leaves(-11, "copy", 1, 0, 2, 0, -1).leaves(-11, "copy", 1, 9, 2, 0, 1);
    }

    private static void copyUnlike() {
        Edges.of("Promise 28", "-13: they are of unlike sorts");
        Run x = Scenes.busy();
        x.leaves(-13, "copy", 0, 0, 1, 0, 1).leaves(-13, "copy", 1, 0, 0, 0, 1).leaves(-13, "copy", 1, 0, 3, 0, 0);
        x.leaves(-13, "copy", 1, 0, 0, 0, -1).leaves(-13, "copy", 1, 9, 0, 0, 1).due(1, "copy", 0, 0, 3, 0, 1);
        x.then("sheet", 0, 0, 1).due(1, "copy", 0, 0, 1, 0, 1);
    }

    private static void copyOutside() {
        Edges.of("Promise 28", "-12 (also with n below 0).");
        Run x = Scenes.busy();
        int most = Integer.MAX_VALUE;
        int least = Integer.MIN_VALUE;
        int[][] outside = {
            {0, 0, -1}, {0, 0, least}, {8, 40, -1}, {-1, 0, 1}, {0, -1, 1}, {-1, 0, 0}, {0, -1, 0}, {8, 0, 1}, {0, 40, 1}, {1, 0, 8},
            {0, 33, 8}, {0, 0, 9}, {9, 0, 0}, {0, 41, 0}, {most, 0, 1}, {0, most, 1}, {1, 1, most}, {most, most, most}, {least, 0, 1},
            {0, least, 1}, {most, 0, 0}, {0, most, 0}, {1, 0, most}, {0, 0, 41},
        };
        for (int[] o : outside) {
            x.leaves(-12, "copy", 0, o[0], 3, o[1], o[2]);
        }
        x.again().due(8, "copy", 0, 0, 3, 32, 8).due(1, "copy", 0, 7, 3, 39, 1).due(7, "copy", 0, 1, 3, 0, 7);
        x.leaves(-12, "copy", 3, 39, 3, 0, 2).leaves(-12, "copy", 3, 0, 0, 0, 9);
    }
}

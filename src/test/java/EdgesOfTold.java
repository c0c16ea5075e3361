/** Promises 21 to 25: the edges of what was told, of films, images and counts. */
final class EdgesOfTold {
    private static final int[] NO_NUMBERS = {-1, 4, Integer.MIN_VALUE, Integer.MAX_VALUE};
    private static final int[] NO_ROUTERS = {-1, 8, Integer.MIN_VALUE, Integer.MAX_VALUE};

    private EdgesOfTold() {
    }

    static void run() {
        numbersAtMost();
        itselfAndNone();
        ofShorts();
        firstOtherwise();
        routersJustSo();
        linksBroken();
        linksThatAreUp();
        linksLate();
        costsTried();
        costsFromEndOne();
        costsOfALinkDown();
        costsLate();
        leastCost();
        tellsWhat();
        tellsRefuses();
        tellsNoLink();
        tellsMissing();
        tellsMoreThanEight();
        film();
        filmOfAnySheet();
        filmRefuses();
        image();
        imageKeepsAllButSheets();
        back();
        backIsNone();
        count();
        countEver();
        countRefuses();
    }

    private static Run row(Run x, int sheet, int sort, int... row) {
        x.then("sheet", sheet, sort, row.length);
        for (int i = 0; i < row.length; i++) {
            x.then("cell", sheet, i, row[i]);
        }
        return x;
    }

    private static void numbersAtMost() {
        Edges.of("Terms", "a SHEET tells costs of ROUTES from x to 0, 1, .. (8 numbers at most");
        Run x = Scenes.triangle();
        int[] costs = {0, 1, 3, -1, -1, -1, -1, -1};
        for (int n = 0; n <= 8; n++) {
            row(x, n % 4, 1, java.util.Arrays.copyOf(costs, n)).leaves(-1, "tells", n % 4, 0, 0);
        }
        for (int n = 9; n <= 40; n += 31) {
            row(x, 0, 1, java.util.Arrays.copyOf(costs, n)).leaves(-2, "tells", 0, 0, 0);
        }
        x.then("sheet", 0, 0, 0).leaves(-1, "tells", 0, 7, 0).leaves(255, "tells", 0, 7, 1).leaves(7, "tells", 0, 7, 2)
            .leaves(12, "tells", 0, 7, 4).leaves(1, "tells", 0, 7, 5);
    }

    private static void itselfAndNone() {
        Edges.of("Terms", "to itself 0; NONE: none)");
        Run x = row(Scenes.triangle(), 0, 1, -1, -1, -1, -1, -1, -1, -1, 0).leaves(-1, "tells", 0, 7, 0);
        x.then("cell", 0, 7, -1).leaves(7, "tells", 0, 7, 0).then("cell", 0, 7, 0).then("cell", 0, 0, 9999);
        x.leaves(0, "tells", 0, 7, 0).then("cell", 0, 0, 0).leaves(0, "tells", 0, 7, 0);
    }

    private static void ofShorts() {
        Edges.of("Terms", "rows of numbers, or missing");
        Run x = row(Scenes.triangle(), 0, 0, 65536, 1 - 65536, 3 + (1 << 30), 65535).leaves(-1, "tells", 0, 0, 0);
        row(x, 0, 1, 65536, 1, 3).leaves(0, "tells", 0, 0, 0);
        row(x, 0, 1, 0, 1, 3, 65535).leaves(3, "tells", 0, 0, 0);
    }

    private static void firstOtherwise() {
        Edges.of("Terms", "the first that is otherwise; NONE");
        int[] costs = {0, 1, 3, -1, -1, -1, -1, -1};
        for (int first = 0; first < 8; first++) {
            Run x = row(Scenes.triangle(), 0, 1, costs).then("cell", 0, first, 77);
            x.leaves(first, "tells", 0, 0, 0).then("cell", 0, 7, 77).leaves(first, "tells", 0, 0, 0);
        }
        row(Scenes.triangle(), 0, 1, costs).leaves(-1, "tells", 0, 0, 0);
    }

    private static void routersJustSo() {
        Edges.of("Terms", "ROUTERS (bits) from which it is just so");
        Run x = row(Scenes.triangle(), 0, 1, 0).leaves(1, "tells", 0, 5, 1);
        row(x, 0, 1, 0, 1, 3).leaves(1, "tells", 0, 5, 1);
        row(x, 0, 1, 1, 0, 2).leaves(2, "tells", 0, 5, 1);
        row(x, 0, 1, -1, -1, -1, -1, -1, -1, -1, 0).leaves(128, "tells", 0, 0, 1);
        row(x, 0, 1, -1).leaves(0xF8, "tells", 0, 0, 1);
        row(x, 0, 1, 2, 2, 2).leaves(0, "tells", 0, 0, 1);
        row(x, 0, 1).leaves(255, "tells", 0, 0, 1);
    }

    private static void linksBroken() {
        Edges.of("Terms", "LINKS (bits; up) by which BROKEN it would be so from x");
        Run x = Scenes.line(0, 0, 1, 1);
        for (int i = 1; i < 11; i++) {
            x.then("link", 1, 2, 1, 5, 5);
        }
        x.then("link", 6, 7, 0, 4, 4).then("ticks", 9);
        row(x, 0, 1, 0, -1).leaves(1, "tells", 0, 0, 2);
        row(x, 1, 1, -1, -1, -1, -1, -1, -1, 0, -1).leaves(2048, "tells", 1, 6, 2);
        row(x, 2, 1, 0, 1, 6).leaves(4094, "tells", 2, 0, 2);
        row(x, 3, 1, 0, 7).leaves(0, "tells", 3, 0, 2);
        row(x, 3, 1, 0).leaves(4095, "tells", 3, 0, 2).leaves(0, "tells", 3, 1, 2);
    }

    private static void linksThatAreUp() {
        Edges.of("Terms", "LINKS (bits; up)");
        Run x = row(Scenes.triangle(), 0, 1, 0).leaves(7, "tells", 0, 0, 2).then("set", 0, 0).leaves(6, "tells", 0, 0, 2);
        x.then("set", 2, 0).leaves(2, "tells", 0, 0, 2).then("set", 1, 0).leaves(0, "tells", 0, 0, 2);
        row(new Run(), 0, 1, 0).leaves(0, "tells", 0, 0, 2);
    }

    private static void linksLate() {
        Edges.of("Terms", "by which BROKEN it would be so");
        row(EdgesOfThought.lateRun(), 0, 1, 7, 6, 5, 4, 3, 2, 1, 0).leaves(128, "tells", 0, 7, 2);
    }

    private static void costsTried() {
        Edges.of("Terms", "of COSTS 1 to 12 of a LINK");
        Run x = new Run().then("link", 0, 1, 0, 50, 50).then("link", 0, 1, 1, 13, 13).then("ticks", 3);
        for (int c = 0; c <= 14; c++) {
            row(x, 0, 1, 0, c).due(c >= 1 && c <= 12 ? 1 : 0, "tells", 0, 0, 4);
            x.due(c >= 1 && c <= 12 ? c : -1, "tells", 0, 0, 5);
        }
        row(x, 0, 1, 0).leaves(12, "tells", 0, 0, 4).leaves(1, "tells", 0, 0, 5);
        x.then("cost", 1, 0, 12).then("tick");
        row(x, 0, 1, 0, 12).leaves(1, "tells", 0, 0, 4).leaves(12, "tells", 0, 0, 5);
        x.then("cost", 1, 0, 11).then("tick");
        row(x, 0, 1, 0, 11).leaves(2, "tells", 0, 0, 4).leaves(11, "tells", 0, 0, 5);
    }

    private static void costsFromEndOne() {
        Edges.of("Terms", "of a LINK from its END one (each, then 40 TICKS, in thought)");
        Run x = Scenes.triangle();
        row(x, 0, 1, 5).leaves(0, "tells", 0, 1, 4).leaves(-1, "tells", 0, 1, 5);
        row(x, 0, 1, 0, 5).leaves(1, "tells", 0, 0, 4).leaves(5, "tells", 0, 0, 5);
        row(x, 0, 1, 1).leaves(12, "tells", 0, 1, 4).leaves(1, "tells", 0, 1, 5);
        x.due(1, "told", 0, 3);
    }

    private static void costsOfALinkDown() {
        Edges.of("Promise 21", "of LINK what / 4 - 1 (what 4 and more): how many COSTS");
        Run x = Scenes.triangle().then("set", 2, 0);
        row(x, 0, 1, 0, 1, 3).leaves(12, "tells", 0, 0, 12).leaves(1, "tells", 0, 0, 13).leaves(1, "tells", 0, 0, 4)
            .leaves(1, "tells", 0, 0, 8).leaves(2, "tells", 0, 0, 9);
        Run last = row(Scenes.full(), 0, 1, 0).leaves(12, "tells", 0, 0, 48).leaves(1, "tells", 0, 0, 49);
        last.then("set", 0, 0).then("set", 2, 0);
        row(last, 0, 1, 0, 10).leaves(1, "tells", 0, 0, 48).leaves(7, "tells", 0, 0, 49);
    }

    private static void costsLate() {
        Edges.of("Terms", "(each, then 40 TICKS, in thought)");
        Run x = row(EdgesOfThought.lateRun(), 0, 1, 7, 6, 5, 4, 3, 2, 1, 0);
        x.leaves(12, "tells", 0, 7, 32).leaves(1, "tells", 0, 7, 33);
    }

    private static void leastCost() {
        Edges.of("Promise 21", "how many COSTS (what % 4 = 0), the least (1; NONE).");
        Run x = Scenes.triangle();
        row(x, 0, 1, 0, 1, 3).leaves(10, "tells", 0, 0, 12).leaves(3, "tells", 0, 0, 13);
        row(x, 0, 1, 0, 1, 2).leaves(1, "tells", 0, 0, 12).leaves(2, "tells", 0, 0, 13);
        row(x, 0, 1, 0, 1, 1).leaves(1, "tells", 0, 0, 12).leaves(1, "tells", 0, 0, 13);
        row(x, 0, 1, 0, 1, 4).leaves(0, "tells", 0, 0, 12).leaves(-1, "tells", 0, 0, 13);
    }

    private static void tellsWhat() {
        Edges.of("Promise 21", "TOLD: the first that is otherwise (what 0; NONE), ROUTERS (1), LINKS (2)");
        Run x = row(Scenes.triangle(), 0, 1, 0, 1, 9).leaves(2, "tells", 0, 0, 0).leaves(0, "tells", 0, 0, 1).leaves(2, "tells", 0, 0, 2);
        row(x, 3, 0, 0, 1).leaves(-1, "tells", 3, 0, 0).leaves(1, "tells", 3, 0, 1).leaves(6, "tells", 3, 0, 2);
    }

    private static void tellsRefuses() {
        Edges.of("Promise 21", "BAD: SHEET, ROUTER, what");
        Run x = Scenes.busy();
        for (int none : NO_NUMBERS) {
            x.leaves(-2, "tells", none, 0, 0).leaves(-2, "tells", none, 0, 4);
        }
        for (int none : NO_ROUTERS) {
            x.leaves(-2, "tells", 0, none, 0).leaves(-2, "tells", 1, none, 45);
        }
        int[] what = {-1, 3, 6, 7, 10, 11, 46, 47, 50, 51, -4, Integer.MIN_VALUE, Integer.MAX_VALUE, Integer.MAX_VALUE - 1};
        for (int none : what) {
            x.leaves(-2, "tells", 0, 0, none).leaves(-2, "tells", 1, 7, none);
        }
    }

    private static void tellsNoLink() {
        Edges.of("Promise 21", "-12: no such LINK");
        Run x = row(new Run(), 0, 1, 0).leaves(-12, "tells", 0, 0, 4).leaves(-12, "tells", 0, 0, 5);
        x.then("link", 0, 1, 0, 1, 1).leaves(12, "tells", 0, 0, 4).leaves(1, "tells", 0, 0, 5).leaves(-12, "tells", 0, 0, 8);
        int[] none = {48, 49, 52, 53, Integer.MAX_VALUE - 3, Integer.MAX_VALUE - 2};
        for (int what : none) {
            Scenes.busy().leaves(-12, "tells", 0, 0, what);
        }
        Scenes.full().leaves(-12, "tells", 0, 0, 52).leaves(-12, "tells", 0, 0, 53);
    }

    private static void tellsMissing() {
        Edges.of("Promise 21", "-12: no such LINK; -11;");
        Run x = Scenes.busy();
        int[] all = {0, 1, 2, 4, 45};
        for (int what : all) {
            x.leaves(-11, "tells", 2, 0, what).leaves(-11, "tells", 2, 7, what);
        }
        x.then("sheet", 0, -1, 8).leaves(-11, "tells", 0, 0, 0);
        for (int sheet = 0; sheet <= 3; sheet++) {
            new Run().leaves(-11, "tells", sheet, 0, 0);
        }
    }

    private static void tellsMoreThanEight() {
        Edges.of("Promise 21", "BAD: it tells more than 8.");
        Run x = Scenes.busy().then("sheet", 2, 0, 9).then("sheet", 0, 1, 8);
        int[] all = {0, 1, 2, 4, 45};
        for (int what : all) {
            x.leaves(-2, "tells", 3, 0, what).leaves(-2, "tells", 2, 0, what);
        }
        x.leaves(1, "tells", 0, 0, 0).leaves(0, "tells", 0, 0, 1).then("sheet", 2, 1, 8).leaves(0, "tells", 2, 7, 0);
    }

    /** Of a triangle's routers 0, 1, 2 and all others the costs to 0 are 0, 1, 3 and NONE: by that items are read. */
    private static void items(Run x, int sheet, int... due) {
        int spare = (sheet + 1) % 4;
        Run read = x.again().then("sheet", spare, 1, 1);
        for (int i = 0; i < due.length; i++) {
            int bits = due[i] == -1 ? 0xF8 : due[i] == 3 ? 4 : due[i] + 1;
            read.due(1, "copy", sheet, i, spare, 0, 1).due(bits, "tells", spare, 0, 1);
        }
        read.due(-12, "cell", sheet, due.length, 0);
    }

    private static void film() {
        Edges.of("Promise 22", "A SHEET truly becomes costs of ROUTES from a ROUTER to 0 .. 7 (ints; NONE: none): 8.");
        Run x = Scenes.triangle();
        for (int sheet = 0; sheet <= 3; sheet++) {
            x.due(8, "film", sheet, 0).leaves(-1, "tells", sheet, 0, 0).due(8, "film", sheet, 7).leaves(-1, "tells", sheet, 7, 0);
        }
        items(x.due(8, "film", 0, 0), 0, 0, 1, 3, -1, -1, -1, -1, -1);
        items(x, 3, -1, -1, -1, -1, -1, -1, -1, 0);
        x.then("set", 0, 0).then("set", 2, 0).leaves(1, "tells", 0, 0, 0);
        items(x.due(8, "film", 0, 0).then("set", 0, 1).then("set", 2, 1), 0, 0, -1, -1, -1, -1, -1, -1, -1);
        items(new Run().due(8, "film", 3, 7).then("link", 0, 1, 0, 1, 1).then("link", 1, 2, 0, 2, 2).then("ticks", 4),
            3, -1, -1, -1, -1, -1, -1, -1, 0);
    }

    private static void filmOfAnySheet() {
        Edges.of("Promise 22", "(ints; NONE: none): 8.");
        Run x = Scenes.triangle().then("sheet", 0, 0, 40).then("sheet", 1, 0, 0).due(8, "film", 0, 0).due(8, "film", 1, 0);
        x.due(8, "film", 2, 0).then("sheet", 3, 1, 8).due(8, "film", 3, 0);
        for (int sheet = 0; sheet <= 3; sheet++) {
            x.due(1, "cell", sheet, 7, 65535).leaves(7, "tells", sheet, 0, 0).due(1, "cell", sheet, 7, -1);
            x.leaves(-12, "cell", sheet, 8, 0);
        }
        for (int sheet = 0; sheet <= 2; sheet++) {
            x.due(8, "copy", sheet, 0, 3, 0, 8);
        }
    }

    private static void filmRefuses() {
        Edges.of("Promise 22", "(ints; NONE: none): 8. BAD.");
        Run x = Scenes.busy();
        for (int none : NO_NUMBERS) {
            x.leaves(-2, "film", none, 0);
        }
        for (int none : NO_ROUTERS) {
            x.leaves(-2, "film", 0, none).leaves(-2, "film", 2, none).leaves(-2, "film", 4, none);
        }
    }

    private static void image() {
        Edges.of("Promise 23", "AN IMAGE is kept: how many LINKS.");
        Run x = new Run().due(0, "image").due(0, "back");
        for (int i = 1; i <= 12; i++) {
            x.then("link", 0, 7, 0, 1, 1).due(i, "image").due(i, "back");
        }
        x.then("set", 0, 0).due(12, "image");
        Run busy = Scenes.busy().due(11, "image").then("link", 0, 1, 0, 1, 1).due(12, "count", 0).due(11, "back").due(11, "count", 0);
        busy.then("link", 0, 1, 0, 1, 1).due(12, "image").then("set", 0, 0).due(12, "back").due(12, "count", 0);
    }

    private static void imageKeepsAllButSheets() {
        Edges.of("Terms", "AN IMAGE keeps all but SHEETS.");
        Run x = Scenes.busy().then("tick").then("image");
        String kept = Reading.ofNet(x);
        x.then("link", 5, 4, 2, 8, 8).then("set", 10, 1).then("set", 2, 0).then("cost", 0, 0, 33).then("cost", 6, 1, 44);
        x.then("ticks", 70).then("sheet", 0, 0, 5).then("sheet", 1, -1, 0).then("film", 2, 3).then("cell", 3, 0, 77);
        Check.holds("it was changed", !Reading.ofNet(x).equals(kept));
        x.due(11, "back");
        Check.holds("all but SHEETS is as it was", Reading.ofNet(x).equals(kept));
        x.due(1, "cell", 0, 4, 0).due(-12, "cell", 0, 5, 0).due(-11, "cell", 1, 0, 0).due(1, "cell", 2, 7, 1).due(-2, "tells", 3, 0, 0);
    }

    private static void back() {
        Edges.of("Promise 24", "All that it keeps is as in THE IMAGE: how many LINKS.");
        Run x = Scenes.triangle().then("cost", 0, 0, 7).then("tick").then("image");
        String kept = Reading.ofNet(x);
        for (int i = 0; i < 3; i++) {
            x.then("set", 0, 0).then("link", 0, 3, 1, 1, 1).then("ticks", 9 + i).then("cost", 1, 1, 9);
            x.then("settled", 0).then("broken", 1, 0, 2).then("drawn", 0, 1).due(3, "back");
            Check.holds("as in THE IMAGE", Reading.ofNet(x).equals(kept));
        }
        x.leaves(3, "back");
    }

    private static void backIsNone() {
        Edges.of("Promise 24", "STATE: there is none.");
        new Run().leaves(-3, "back");
        Run x = Scenes.triangle().leaves(-3, "back").then("image").leaves(3, "back");
        x.then("back").leaves(3, "back");
    }

    private static void count() {
        Edges.of("Promise 25", "0 LINKS, 1 of these up, 2 TICKS ever, 3 MESSAGES ever, 4 that wait to ARRIVE, 5 ADVERTS known of all ROUTERS, together.");
        Run x = Scenes.triangle().then("set", 1, 0).then("tick");
        int[] due = {3, 2, 6, 14, 2, 9};
        for (int what = 0; what <= 5; what++) {
            x.leaves(due[what], "count", what);
            new Run().leaves(0, "count", what);
        }
    }

    private static void countEver() {
        Edges.of("Promise 25", "2 TICKS ever, 3 MESSAGES ever");
        Run x = Scenes.line(0, 0, 1, 1).then("settled", 0).then("broken", 0, 0, 1).then("drawn", 0, 1).then("chance", 0, 1, 6, 0);
        x.due(0, "count", 2).due(0, "count", 3).then("ticks", 0).due(0, "count", 2).then("ticks", 80).due(80, "count", 2);
        x.due(8, "count", 3).then("tick").due(81, "count", 2).due(10, "count", 3);
        x.then("ticks", 81).due(81, "count", 2);
    }

    private static void countRefuses() {
        Edges.of("Promise 25", "together. BAD.");
        int[] none = {-1, 6, 7, Integer.MIN_VALUE, Integer.MAX_VALUE};
        for (int what : none) {
            Scenes.busy().leaves(-2, "count", what);
        }
    }
}

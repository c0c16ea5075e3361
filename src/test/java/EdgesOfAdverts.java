/** Promises 10 and 11, and what adverts tell: their edges. */
final class EdgesOfAdverts {
    private EdgesOfAdverts() {
    }

    static void run() {
        numberFromOne();
        noneAtFirst();
        oneAtMost();
        linksTold();
        costsThen();
        sumsTold();
        sumOfNoBorder();
        sumOfItself();
        sumForTheBackbone();
        sumForAnotherArea();
        sumOfNone();
        staleByALinkDown();
        staleByAnotherCost();
        advert();
        advertCost();
        advertSum();
        advertRefuses();
        advertKnowsNone();
        message();
        messageNothingWaits();
        messageRefuses();
        messageOutside();
        mostThatWait();
    }

    private static void numberFromOne() {
        Edges.of("Terms", "it has a NUMBER (1 ..), an AGE, what it tells");
        Run x = Scenes.line(1, 6, 7, 1).then("tick").due(1, "advert", 6, 6, 1, 0).due(0, "advert", 6, 6, 1, 1);
        x.then("set", 0, 0).then("tick").due(2, "advert", 6, 6, 1, 0);
        for (int i = 0; i < 10; i++) {
            x.then("ticks", 80);
        }
        x.due(2 + 40, "advert", 6, 6, 1, 0);
    }

    private static void noneAtFirst() {
        Edges.of("Terms", "one ADVERT at most (none at first).");
        Run x = new Run();
        for (int i = 0; i < 8 * 8 * 3; i++) {
            x.due(-3, "advert", i / 24, i % 8, i / 8 % 3, 0);
        }
        x.due(0, "count", 5);
        Scenes.line(0, 0, 7, 1).due(0, "count", 5).due(-3, "advert", 0, 0, 0, 0).due(0, "router", 0, 2);
    }

    /** Eight in the backbone and six in area 1: each knows all of its areas, and no more of one that tells anew. */
    private static void oneAtMost() {
        Edges.of("Terms", "A ROUTER KNOWS of each ROUTER (itself, too) and AREA one ADVERT at most");
        Run x = Scenes.line(0, 0, 7, 1);
        for (int i = 0; i < 5; i++) {
            x.then("link", i, i + 1, 1, 1, 1);
        }
        x.then("tick").due(14, "count", 5).due(2, "router", 0, 2).due(1, "router", 7, 2);
        x.then("ticks", 60).due(8 * 8 + 6 * 6, "count", 5).due(14, "router", 0, 2).due(8, "router", 6, 2);
        x.then("cost", 0, 0, 9).then("cost", 11, 1, 9).then("ticks", 10).due(8 * 8 + 6 * 6, "count", 5);
    }

    private static void linksTold() {
        Edges.of("Terms", "of each LINK of its AREA that is up and of which it is an END");
        Run x = new Run();
        for (int i = 0; i < 12; i++) {
            x.then("link", i % 2 == 0 ? 0 : 7, i % 2 == 0 ? 7 : 0, 0, 10 + i, 40 + i);
        }
        x.then("tick").due(4095, "advert", 0, 0, 0, 2).due(4095, "advert", 7, 7, 0, 2);
        x.then("set", 0, 0).then("set", 11, 0).then("tick").due(4095 - 1 - 2048, "advert", 0, 0, 0, 2);
        Run areas = new Run();
        for (int i = 0; i < 12; i++) {
            areas.then("link", 0, 1 + i / 6, i % 3, 1, 1);
        }
        areas.then("tick").due(0b001001001001, "advert", 0, 0, 0, 2).due(0b010010010010, "advert", 0, 0, 1, 2);
        areas.due(0b100100100100, "advert", 0, 0, 2, 2).due(0b000000001001, "advert", 1, 1, 0, 2);
        areas.due(0b100100000000, "advert", 2, 2, 2, 2);
    }

    private static void costsThen() {
        Edges.of("Terms", "the LINK and its own COST then");
        Run x = new Run().then("link", 0, 1, 0, 1, 99).then("link", 1, 0, 0, 2, 98).then("ticks", 2);
        x.due(1, "advert", 0, 0, 0, 10).due(98, "advert", 0, 0, 0, 11).due(99, "advert", 0, 1, 0, 10).due(2, "advert", 0, 1, 0, 11);
        x.then("cost", 0, 0, 50).then("cost", 0, 1, 60).due(1, "advert", 0, 0, 0, 10).due(99, "advert", 1, 1, 0, 10);
        x.then("tick").due(50, "advert", 0, 0, 0, 10).due(99, "advert", 0, 1, 0, 10);
        x.then("cost", 0, 1, 70).then("tick").due(60, "advert", 0, 1, 0, 10).then("tick").due(70, "advert", 0, 1, 0, 10);
    }

    private static void sumsTold() {
        Edges.of("Terms", "and of each ROUTER a SUM (FAR: none)");
        Run x = new Run().then("link", 0, 7, 1, 3, 3).then("link", 0, 6, 0, 2, 2).then("link", 7, 5, 1, 90, 90).then("ticks", 9);
        int[] due = {9999, 9999, 9999, 9999, 9999, 93, 9999, 3};
        for (int d = 0; d < 8; d++) {
            x.due(due[d], "advert", 6, 0, 0, 30 + d).due(d == 6 ? 2 : 9999, "advert", 5, 0, 1, 30 + d);
        }
    }

    private static void sumOfNoBorder() {
        Edges.of("Terms", "FAR, if it is no BORDER, or d is itself.");
        Run x = new Run().then("link", 0, 1, 1, 1, 1).then("link", 0, 2, 2, 1, 1).then("link", 3, 4, 0, 1, 1).then("ticks", 9);
        for (int d = 0; d < 8; d++) {
            x.due(9999, "advert", 0, 0, 1, 30 + d).due(9999, "advert", 2, 0, 2, 30 + d).due(9999, "advert", 3, 4, 0, 30 + d);
        }
        Run star = Scenes.star().due(3, "advert", 0, 0, 0, 32).due(5, "advert", 0, 0, 1, 31);
        star.then("set", 0, 0).then("tick").due(9999, "advert", 0, 0, 0, 32).due(9999, "advert", 0, 0, 1, 31);
        Run alone = Scenes.star().then("set", 1, 0).then("set", 2, 0).then("tick");
        alone.due(9999, "advert", 0, 0, 0, 32).due(9999, "advert", 0, 0, 0, 33).due(9999, "advert", 0, 0, 1, 31);
    }

    private static void sumOfItself() {
        Edges.of("Terms", "or d is itself.");
        Run x = Scenes.star();
        for (int area = 0; area <= 2; area++) {
            x.due(9999, "advert", 0, 0, area, 30);
        }
        Run last = new Run().then("link", 7, 6, 0, 1, 1).then("link", 7, 5, 1, 1, 1).then("ticks", 5);
        last.due(9999, "advert", 6, 7, 0, 37).due(9999, "advert", 5, 7, 1, 37).due(1, "advert", 6, 7, 0, 35);
    }

    private static void sumForTheBackbone() {
        Edges.of("Terms", "For AREA 0: the least of DISTANCES to d WITHIN its other AREAS in which it is.");
        Run x = new Run().then("link", 0, 1, 0, 1, 1).then("link", 0, 2, 1, 7, 7).then("link", 0, 2, 2, 4, 4)
            .then("link", 0, 2, 0, 1, 1).then("ticks", 6).due(4, "advert", 1, 0, 0, 32).due(9999, "advert", 1, 0, 0, 31);
        x.then("cost", 2, 0, 8).then("ticks", 4).due(7, "advert", 1, 0, 0, 32);
        x.then("cost", 1, 0, 8).then("ticks", 4).due(8, "advert", 1, 0, 0, 32);
        Run star = Scenes.star().then("set", 1, 0).then("tick").due(9999, "advert", 0, 0, 0, 32).due(4, "advert", 0, 0, 0, 33);
        Run notAcross = new Run().then("link", 0, 1, 0, 1, 1).then("link", 0, 1, 1, 1, 1).then("link", 1, 2, 2, 1, 1).then("ticks", 9);
        notAcross.due(1, "advert", 0, 1, 0, 32).due(9999, "advert", 1, 0, 0, 32).due(2, "advert", 1, 0, 1, 32);
    }

    /** Within the backbone goes before across it, even if it is dearer. */
    private static void sumForAnotherArea() {
        Edges.of("Terms", "For another AREA: DISTANCE to d WITHIN AREA 0, or, if there is none, what ACROSS tells by AREA 0.");
        Run x = new Run().then("link", 0, 1, 0, 50, 50).then("link", 0, 2, 0, 1, 1).then("link", 2, 1, 1, 1, 1)
            .then("link", 0, 3, 2, 1, 1).then("ticks", 9).due(50, "advert", 3, 0, 2, 31).due(1, "advert", 0, 2, 0, 31);
        x.then("set", 0, 0).then("ticks", 6).due(2, "advert", 3, 0, 2, 31);
        x.then("cost", 1, 0, 99).then("ticks", 4).due(100, "advert", 3, 0, 2, 31);
        x.then("set", 2, 0).then("ticks", 6).due(9999, "advert", 3, 0, 2, 31).due(99, "advert", 3, 0, 2, 32);
    }

    private static void sumOfNone() {
        Edges.of("Terms", "what ACROSS tells by AREA 0. (FAR: none.)");
        Run x = Scenes.star();
        for (int d = 4; d < 8; d++) {
            x.due(9999, "advert", 1, 0, 0, 30 + d).due(9999, "advert", 2, 0, 1, 30 + d).due(9999, "advert", 3, 0, 2, 30 + d);
        }
        x.due(9999, "advert", 2, 0, 1, 33).due(9999, "advert", 3, 0, 2, 32).due(9999, "advert", 1, 0, 0, 31);
    }

    private static void staleByALinkDown() {
        Edges.of("Terms", "STALE are ADVERTS that a ROUTER KNOWS that tell a LINK that is down now");
        Run x = Scenes.line(0, 0, 3, 1).then("ticks", 5);
        stale(x, 0, 0, 0, 0);
        x.then("set", 1, 0);
        stale(x, 2, 2, 2, 2);
        x.then("set", 1, 1);
        stale(x, 0, 0, 0, 0);
        x.then("link", 0, 3, 0, 1, 1).then("set", 3, 0);
        stale(x, 0, 0, 0, 0);
        x.then("set", 1, 0).then("tick");
        stale(x, 2, 1, 1, 2);
        x.then("tick");
        stale(x, 1, 1, 1, 1);
    }

    private static void staleByAnotherCost() {
        Edges.of("Terms", "or another COST than it has now.");
        Run x = Scenes.line(0, 0, 3, 1).then("ticks", 5).then("cost", 1, 0, 2);
        stale(x, 1, 1, 1, 1);
        x.then("cost", 1, 1, 99);
        stale(x, 2, 2, 2, 2);
        x.then("cost", 1, 0, 1);
        stale(x, 1, 1, 1, 1);
        x.then("tick");
        stale(x, 1, 1, 0, 1);
        x.then("tick");
        stale(x, 1, 0, 0, 0);
        x.then("cost", 1, 1, 1);
        stale(x, 0, 1, 1, 1);
    }

    /** How many of what routers 0 .. 3 know are stale. */
    private static void stale(Run x, int... due) {
        for (int router = 0; router < due.length; router++) {
            x.leaves(due[router], "router", router, 3);
        }
        x.due(0, "router", 7, 3);
    }

    private static void advert() {
        Edges.of("Promise 10", "NUMBER (what 0), AGE (1), LINKS (2; bits)");
        Run x = Scenes.line(2, 5, 7, 9).then("ticks", 6).then("cost", 0, 0, 8).then("ticks", 4);
        x.leaves(2, "advert", 7, 5, 2, 0).leaves(3, "advert", 7, 5, 2, 1).leaves(1, "advert", 7, 5, 2, 2);
        x.leaves(1, "advert", 5, 6, 2, 0).leaves(9, "advert", 5, 6, 2, 1).leaves(3, "advert", 5, 6, 2, 2);
        x.due(2, "advert", 7, 7, 2, 2);
    }

    private static void advertCost() {
        Edges.of("Promise 10", "COST of LINK what - 10 (10 .. 21; NONE: it isn't told)");
        Run x = new Run().then("link", 0, 7, 2, 31, 41);
        for (int i = 1; i < 12; i++) {
            x.then("link", i % 7, 7, i == 11 ? 2 : 1, 31 + i, 41 + i);
        }
        x.then("ticks", 3).leaves(41, "advert", 7, 7, 2, 10).leaves(52, "advert", 7, 7, 2, 21).due(31, "advert", 7, 0, 2, 10);
        x.due(42, "advert", 4, 4, 2, 21);
        for (int i = 1; i < 11; i++) {
            x.due(-1, "advert", 7, 7, 2, 10 + i).due(41 + i, "advert", 7, 7, 1, 10 + i);
        }
        x.due(-1, "advert", 7, 7, 1, 10).due(-1, "advert", 7, 7, 1, 21).due(-1, "advert", 7, 0, 2, 21);
        x.then("set", 11, 0).then("tick").leaves(-1, "advert", 7, 7, 2, 21);
        Scenes.line(0, 0, 1, 1).then("tick").due(-1, "advert", 0, 0, 0, 11).due(-1, "advert", 0, 0, 0, 21);
    }

    private static void advertSum() {
        Edges.of("Promise 10", "SUM of ROUTER what - 30 (30 .. 37).");
        Run x = new Run().then("link", 3, 0, 1, 6, 6).then("link", 3, 7, 1, 8, 8).then("link", 3, 4, 0, 1, 1).then("ticks", 6);
        x.leaves(6, "advert", 4, 3, 0, 30).leaves(8, "advert", 4, 3, 0, 37).leaves(9999, "advert", 4, 3, 0, 33);
        x.leaves(9999, "advert", 4, 3, 0, 31).leaves(9999, "advert", 4, 3, 0, 36).leaves(1, "advert", 0, 3, 1, 34);
    }

    private static void advertRefuses() {
        Edges.of("Promise 10", "(30 .. 37). BAD");
        Run x = Scenes.busy();
        int[] none = {-1, 3, 9, 22, 29, 38, 4, 25, Integer.MIN_VALUE, Integer.MAX_VALUE};
        for (int what : none) {
            x.leaves(-2, "advert", 0, 1, 0, what).leaves(-2, "advert", 0, 7, 0, what);
        }
        int[][] bad = {{-1, 0, 0}, {8, 0, 0}, {0, -1, 0}, {0, 8, 0}, {0, 0, -1}, {0, 0, 3}, {8, 8, 3}};
        for (int[] b : bad) {
            x.leaves(-2, "advert", b[0], b[1], b[2], 0).leaves(-2, "advert", b[0], b[1], b[2], 37);
        }
    }

    private static void advertKnowsNone() {
        Edges.of("Promise 10", "STATE: it KNOWS none.");
        Run x = new Run();
        int[] all = {0, 1, 2, 10, 21, 30, 37};
        for (int what : all) {
            x.leaves(-3, "advert", 0, 0, 0, what).leaves(-3, "advert", 7, 7, 2, what);
        }
        Run star = Scenes.star();
        star.leaves(-3, "advert", 1, 2, 0, 0).leaves(-3, "advert", 1, 0, 1, 0).leaves(-3, "advert", 1, 1, 2, 0);
        star.leaves(-3, "advert", 7, 0, 0, 0).leaves(-3, "advert", 0, 7, 0, 0);
    }

    private static void message() {
        Edges.of("Promise 11", "over which LINK (what 0), to whom (1), whose ADVERT (2), AREA (3), NUMBER (4).");
        Run x = new Run();
        for (int i = 0; i < 11; i++) {
            x.then("link", i % 6, i % 6 + 1, i % 2, 1, 1);
        }
        x.then("link", 0, 7, 2, 1, 1).then("tick").due(24, "count", 4);
        int[] first = {0, 1, 0, 0, 1};
        int[] last = {11, 0, 7, 2, 1};
        for (int what = 0; what <= 4; what++) {
            x.leaves(first[what], "message", 0, what).leaves(last[what], "message", 23, what);
        }
        x.then("set", 11, 0).then("tick").then("set", 11, 1).then("tick");
        int end = x.ask("count", 4) - 1;
        x.due(11, "message", end, 0).due(0, "message", end, 1).due(7, "message", end, 2).due(3, "message", end, 4);
    }

    private static void messageNothingWaits() {
        Edges.of("Promise 11", "What waits to ARRIVE: MESSAGE i");
        Run x = Scenes.line(0, 0, 1, 1).leaves(-12, "message", 0, 0).then("tick").due(0, "message", 0, 2).due(1, "message", 1, 2);
        x.then("set", 0, 0).due(0, "message", 0, 2).due(2, "count", 4);
        x.then("tick").leaves(-12, "message", 0, 0).due(0, "count", 4);
    }

    private static void messageRefuses() {
        Edges.of("Promise 11", "BAD: what; -12.");
        Run x = Scenes.busy();
        int[] none = {-1, 5, 6, Integer.MIN_VALUE, Integer.MAX_VALUE};
        for (int what : none) {
            x.leaves(-2, "message", 0, what).leaves(-2, "message", 99, what).leaves(-2, "message", -1, what);
        }
    }

    private static void messageOutside() {
        Edges.of("Promise 11", "-12.");
        Run x = Scenes.busy();
        int waiting = x.ask("count", 4);
        Check.holds("some wait", waiting > 1);
        int[] none = {-1, waiting, waiting + 1, 192, Integer.MIN_VALUE, Integer.MAX_VALUE};
        for (int i : none) {
            x.leaves(-12, "message", i, 0).leaves(-12, "message", i, 4);
        }
        Check.holds("the last is one", x.ask("message", waiting - 1, 4) >= 1);
    }

    /**
     * Routers 1 to 7 about 0, five links between these, and all tell anew in each tick: each link
     * carries of each router one advert, from the nearer end to the other, and two if both are as near.
     */
    private static void mostThatWait() {
        Edges.of("Promise 25", "4 that wait to ARRIVE");
        int[] ends = {0, 1, 0, 2, 0, 3, 0, 4, 0, 5, 0, 6, 0, 7, 1, 2, 3, 4, 5, 6, 2, 3, 4, 5};
        Run x = new Run();
        for (int link = 0; link < 12; link++) {
            x.then("link", ends[2 * link], ends[2 * link + 1], 0, 1, 1);
        }
        for (int v = 2; v <= 7; v++) {
            x.then("cost", 0, 0, v);
            for (int link = 0; link < 7; link++) {
                x.then("cost", link, 1, v);
            }
            x.then("tick");
        }
        int due = 0;
        for (int of = 0; of < 8; of++) {
            for (int link = 0; link < 12; link++) {
                due += hops(ends, of, ends[2 * link]) == hops(ends, of, ends[2 * link + 1]) ? 2 : 1;
            }
        }
        Check.holds("they are more than the eight of each link", due > 96);
        x.due(due, "count", 4).leaves(-12, "message", due, 0).due(0, "message", 0, 0).due(6, "message", 6, 0);
        x.due(6, "message", due - 1, 0).due(0, "message", due - 1, 1).due(7, "message", due - 1, 2).due(6, "message", due - 1, 4);
    }

    /** Of routers about 0: how many hops from one to another. */
    private static int hops(int[] ends, int one, int two) {
        if (one == two) {
            return 0;
        }
        for (int i = 0; i < ends.length; i += 2) {
            if (ends[i] == one && ends[i + 1] == two || ends[i] == two && ends[i + 1] == one) {
                return 1;
            }
        }
        return 2;
    }
}

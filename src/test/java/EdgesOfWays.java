/** Promises 12, 13, 15 and 16: the edges of ways as they are told, and as they are. */
final class EdgesOfWays {
    private static final int[] NO_ROUTERS = {-1, 8, Integer.MIN_VALUE, Integer.MAX_VALUE};

    private EdgesOfWays() {
    }

    static void run() {
        toldByBoth();
        costOfAnEdge();
        itself();
        noWay();
        longest();
        leastSum();
        leastFirstHop();
        within();
        withinRefuses();
        inside();
        insideOfLikeOnes();
        insideWhereItIs();
        insideFirst();
        acrossFromABorder();
        acrossFromNoBorder();
        acrossButItself();
        acrossByWhatItKnows();
        acrossOfLikeOnes();
        nothingOfFar();
        route();
        routeToItself();
        routeRefuses();
        truly();
        trulyRefuses();
        cuts();
        cutsOnlyIfThereIsAWay();
        cutsRefuses();
    }

    private static void toldByBoth() {
        Edges.of("Terms", "if ADVERTS of both, x and y, tell it");
        Run x = new Run().then("link", 0, 1, 0, 5, 5).then("tick").leaves(9999, "within", 0, 1, 0, 0);
        x.then("tick").leaves(5, "within", 0, 1, 0, 0);
        x.then("link", 0, 1, 0, 2, 2).then("tick").due(3, "advert", 0, 0, 0, 2).due(5, "within", 0, 1, 0, 0);
        x.then("tick").due(2, "within", 0, 1, 0, 0);
        x.then("set", 0, 0).then("set", 1, 0).due(2, "within", 0, 1, 0, 0).then("tick");
        x.due(3, "advert", 0, 1, 0, 2).leaves(9999, "within", 0, 1, 0, 0);
    }

    private static void costOfAnEdge() {
        Edges.of("Terms", "its cost is what x's tells.");
        Run x = new Run().then("link", 0, 1, 0, 1, 99).then("link", 2, 1, 0, 98, 2).then("ticks", 4);
        x.due(1, "within", 0, 1, 0, 0).due(99, "within", 1, 0, 0, 0).due(2, "within", 1, 2, 0, 0).due(98, "within", 2, 1, 0, 0);
        x.due(3, "within", 0, 2, 0, 0).due(197, "within", 2, 0, 0, 0);
        x.then("cost", 0, 0, 7).due(1, "within", 0, 1, 0, 0).then("tick").due(7, "within", 0, 1, 0, 0);
    }

    private static void itself() {
        Edges.of("Terms", "from the ROUTER on (itself 0; FAR: no way)");
        Run x = new Run();
        for (int router = 0; router < 8; router++) {
            for (int area = 0; area <= 2; area++) {
                x.due(0, "within", router, router, area, 0).due(-1, "within", router, router, area, 1);
            }
        }
        Scenes.busy().leaves(0, "within", 3, 3, 1, 0).leaves(0, "within", 3, 3, 2, 0).leaves(-1, "within", 3, 3, 1, 1);
    }

    private static void noWay() {
        Edges.of("Terms", "FAR: no way)");
        new Run().leaves(9999, "within", 0, 1, 0, 0).leaves(-1, "within", 0, 1, 0, 1);
        Run x = Scenes.star().leaves(9999, "within", 0, 2, 0, 0).leaves(-1, "within", 0, 2, 0, 1);
        x.leaves(9999, "within", 0, 2, 2, 0).leaves(3, "within", 0, 2, 1, 0).leaves(9999, "within", 1, 2, 1, 0);
        x.due(9999, "within", 0, 7, 0, 0).due(9999, "within", 7, 0, 0, 0);
    }

    private static void longest() {
        Edges.of("Terms", "DISTANCE: the least sum of EDGES");
        Run x = Scenes.line(1, 0, 7, 99).then("ticks", 8).due(693, "within", 0, 7, 1, 0).due(693, "within", 7, 0, 1, 0);
        x.due(1, "within", 0, 7, 1, 1).due(6, "within", 7, 0, 1, 1).due(693, "route", 0, 7, 0).due(99, "within", 6, 7, 1, 0);
    }

    private static void leastSum() {
        Edges.of("Terms", "the least sum of EDGES from the ROUTER on");
        Run x = Scenes.triangle().due(3, "within", 0, 2, 0, 0).then("cost", 2, 0, 4).then("ticks", 2);
        x.due(3, "within", 0, 2, 0, 0).due(1, "within", 0, 2, 0, 1).then("cost", 2, 0, 2).then("ticks", 2);
        x.due(2, "within", 0, 2, 0, 0).due(2, "within", 0, 2, 0, 1);
        Run two = new Run().then("link", 0, 1, 0, 5, 6).then("link", 1, 0, 0, 6, 4).then("ticks", 3);
        two.due(4, "within", 0, 1, 0, 0).due(6, "within", 1, 0, 0, 0);
    }

    private static void leastFirstHop() {
        Edges.of("Terms", "of all who can be the next behind the ROUTER on a way of that DISTANCE the least.");
        Run byOne = Scenes.triangle().then("cost", 2, 0, 3).then("ticks", 2);
        byOne.due(3, "within", 0, 2, 0, 0).due(1, "within", 0, 2, 0, 1);
        Run atOnce = new Run().then("link", 0, 1, 0, 3, 3).then("link", 0, 2, 0, 1, 1).then("link", 2, 1, 0, 2, 2).then("ticks", 4);
        atOnce.due(3, "within", 0, 1, 0, 0).due(1, "within", 0, 1, 0, 1).due(3, "within", 1, 0, 0, 0).due(0, "within", 1, 0, 0, 1);
        Run farther = new Run().then("link", 0, 2, 0, 1, 1).then("link", 0, 1, 0, 2, 2).then("link", 2, 3, 0, 3, 3)
            .then("link", 1, 3, 0, 2, 2).then("link", 3, 4, 0, 1, 1).then("ticks", 6);
        farther.due(1, "within", 0, 3, 0, 1).due(5, "within", 0, 4, 0, 0).due(1, "within", 0, 4, 0, 1);
        farther.then("cost", 0, 0, 2).then("cost", 2, 0, 2).then("ticks", 3).due(5, "within", 0, 4, 0, 0).due(1, "within", 0, 4, 0, 1);
        farther.then("cost", 1, 0, 3).then("ticks", 3).due(5, "within", 0, 4, 0, 0).due(2, "within", 0, 4, 0, 1);
    }

    private static void within() {
        Edges.of("Promise 12", "DISTANCE (what 0; FAR), FIRST HOP (1; NONE).");
        Run x = new Run().then("link", 0, 7, 2, 98, 1).then("ticks", 2);
        x.leaves(98, "within", 0, 7, 2, 0).leaves(7, "within", 0, 7, 2, 1).leaves(1, "within", 7, 0, 2, 0).leaves(0, "within", 7, 0, 2, 1);
        x.leaves(9999, "within", 0, 7, 0, 0).leaves(-1, "within", 0, 7, 0, 1).leaves(0, "within", 7, 7, 2, 0).leaves(-1, "within", 7, 7, 2, 1);
    }

    private static void withinRefuses() {
        Edges.of("Promise 12", "FIRST HOP (1; NONE). BAD.");
        Run x = Scenes.busy();
        for (int none : NO_ROUTERS) {
            x.leaves(-2, "within", none, 1, 0, 0).leaves(-2, "within", 1, none, 0, 0).leaves(-2, "within", none, none, 0, 1);
        }
        int[][] bad = {
            {0, 1, -1, 0}, {0, 1, 3, 0}, {0, 1, Integer.MAX_VALUE, 0}, {0, 1, 0, -1}, {0, 1, 0, 2}, {0, 0, 0, 2}, {0, 0, 3, 0},
            {0, 1, 0, Integer.MIN_VALUE},
        };
        for (int[] args : bad) {
            x.leaves(-2, "within", args);
        }
    }

    /** A route's cost, first hop, area, and by whom. */
    private static void route(Run x, int from, int to, int... due) {
        for (int what = 0; what <= 3; what++) {
            x.due(due[what], "route", from, to, what);
        }
    }

    private static void inside() {
        Edges.of("Terms", "INSIDE: the least of DISTANCES to d WITHIN the AREAS in which x is");
        Run x = new Run().then("link", 0, 1, 0, 9, 7).then("link", 0, 1, 1, 7, 8).then("link", 0, 1, 2, 8, 9).then("ticks", 3);
        route(x, 0, 1, 7, 1, 1, -1);
        route(x, 1, 0, 7, 0, 0, -1);
        x.then("cost", 2, 0, 6).then("tick");
        route(x, 0, 1, 6, 1, 2, -1);
    }

    private static void insideOfLikeOnes() {
        Edges.of("Terms", "(of like ones the least AREA), its FIRST HOP there.");
        Run x = new Run().then("link", 0, 1, 2, 1, 1).then("link", 1, 3, 2, 1, 1).then("link", 0, 2, 1, 1, 1)
            .then("link", 2, 3, 1, 1, 1).then("ticks", 4);
        route(x, 0, 3, 2, 2, 1, -1);
        x.then("cost", 2, 0, 2).then("tick");
        route(x, 0, 3, 2, 1, 2, -1);
        x.then("link", 0, 4, 0, 1, 1).then("link", 4, 3, 0, 1, 1).then("ticks", 9);
        route(x, 0, 3, 2, 4, 0, -1);
    }

    /** Though it knows what was told of the others. */
    private static void insideWhereItIs() {
        Edges.of("Terms", "WITHIN the AREAS in which x is");
        Run x = new Run().then("link", 0, 1, 1, 3, 3).then("link", 0, 1, 2, 4, 4).then("ticks", 3);
        route(x, 0, 1, 3, 1, 1, -1);
        x.then("set", 0, 0).due(3, "within", 0, 1, 1, 0);
        route(x, 0, 1, 4, 1, 2, -1);
        x.then("set", 1, 0);
        route(x, 0, 1, -1, -1, -1, -1);
    }

    private static void insideFirst() {
        Edges.of("Terms", "If there is none: ACROSS");
        Run x = new Run().then("link", 0, 1, 1, 99, 99).then("link", 0, 2, 1, 1, 1).then("link", 2, 1, 0, 1, 1).then("ticks", 9);
        x.due(1, "advert", 0, 2, 1, 31);
        route(x, 0, 1, 99, 1, 1, -1);
        x.then("set", 0, 0).then("ticks", 9);
        route(x, 0, 1, 2, 2, 1, 2);
    }

    private static Run twoBorders() {
        return new Run().then("link", 0, 1, 0, 10, 10).then("link", 1, 5, 2, 1, 1).then("link", 0, 2, 1, 1, 1)
            .then("link", 2, 1, 0, 1, 1).then("ticks", 20);
    }

    private static void acrossFromABorder() {
        Edges.of("Terms", "(if x is a BORDER just AREA 0)");
        Run x = twoBorders().due(2, "advert", 0, 2, 1, 35).due(1, "within", 0, 2, 1, 0);
        route(x, 0, 5, 11, 1, 0, 1);
        x.then("set", 0, 0);
        route(x, 0, 5, 3, 2, 1, 2);
    }

    private static void acrossFromNoBorder() {
        Edges.of("Terms", "of all AREAS in which x is");
        Run x = new Run().then("link", 0, 1, 1, 9, 9).then("link", 0, 1, 2, 2, 2).then("link", 1, 7, 0, 3, 3).then("ticks", 9);
        route(x, 0, 7, 5, 1, 2, 1);
        x.then("cost", 1, 0, 20).then("tick");
        route(x, 0, 7, 12, 1, 1, 1);
        x.then("set", 0, 0);
        route(x, 0, 7, 23, 1, 2, 1);
    }

    /** What it told itself of an area that it is no more in. */
    private static void acrossButItself() {
        Edges.of("Terms", "of all ROUTERS b but x");
        Run x = Scenes.star().then("set", 1, 0).then("set", 2, 0).due(3, "advert", 0, 0, 0, 32);
        route(x, 0, 2, -1, -1, -1, -1);
        route(x, 0, 3, -1, -1, -1, -1);
        Run y = Scenes.star().then("set", 0, 0).then("set", 2, 0).due(5, "advert", 0, 0, 1, 31);
        route(y, 0, 1, -1, -1, -1, -1);
    }

    private static void acrossByWhatItKnows() {
        Edges.of("Terms", "of which x KNOWS an ADVERT there that tells a SUM of d");
        Run x = new Run().then("link", 0, 1, 1, 2, 2).then("link", 1, 2, 0, 3, 3).then("ticks", 2);
        x.due(3, "advert", 1, 1, 1, 32).due(9999, "advert", 0, 1, 1, 32);
        route(x, 0, 2, -1, -1, -1, -1);
        x.then("tick");
        route(x, 0, 2, 5, 1, 1, 1);
        x.then("cost", 1, 0, 50).then("tick");
        route(x, 0, 2, 5, 1, 1, 1);
        x.then("tick");
        route(x, 0, 2, 52, 1, 1, 1);
        Run first = Scenes.line(0, 0, 1, 4).then("ticks", 3).then("link", 1, 2, 1, 6, 6).then("ticks", 2).due(1, "advert", 2, 1, 1, 0);
        route(first, 2, 0, 10, 1, 1, 1);
    }

    private static void acrossOfLikeOnes() {
        Edges.of("Terms", "together (of like ones the least AREA, then the least b)");
        Run x = new Run().then("link", 0, 2, 0, 1, 1).then("link", 0, 1, 0, 2, 2).then("link", 2, 5, 1, 2, 2)
            .then("link", 1, 5, 1, 1, 1).then("ticks", 12);
        route(x, 0, 5, 3, 1, 0, 1);
        x.then("cost", 1, 0, 3).then("ticks", 2);
        route(x, 0, 5, 3, 2, 0, 2);
        Run y = new Run().then("link", 0, 3, 2, 2, 2).then("link", 0, 4, 1, 2, 2).then("link", 3, 6, 0, 1, 1)
            .then("link", 4, 6, 0, 1, 1).then("ticks", 12);
        route(y, 0, 6, 3, 4, 1, 4);
        y.then("cost", 0, 0, 1).then("ticks", 2);
        route(y, 0, 6, 2, 3, 2, 3);
    }

    private static void nothingOfFar() {
        Edges.of("Terms", "(Nothing of FAR or more is a way.)");
        Run x = new Run().then("link", 0, 1, 1, 1, 1).then("link", 1, 2, 1, 1, 1).then("link", 2, 3, 0, 1, 1).then("ticks", 9);
        route(x, 0, 3, 3, 1, 1, 2);
        Run cutOff = x.again().then("set", 1, 0).then("ticks", 2).due(1, "advert", 0, 2, 1, 33).due(9999, "within", 0, 2, 1, 0);
        route(cutOff, 0, 3, -1, -1, -1, -1);
        x.then("set", 2, 0).then("ticks", 3).due(9999, "advert", 0, 2, 1, 33).due(2, "within", 0, 2, 1, 0);
        route(x, 0, 3, -1, -1, -1, -1);
    }

    private static void route() {
        Edges.of("Promise 13", "what it costs (what 0; NONE: none; to itself 0), FIRST HOP (1; NONE), AREA (2; NONE), by whom ACROSS (3; NONE: INSIDE).");
        Run x = Scenes.star();
        route(x, 0, 2, 3, 2, 1, -1);
        route(x, 1, 2, 8, 0, 0, 0);
        route(x, 2, 1, 8, 0, 1, 0);
        route(x, 2, 3, -1, -1, -1, -1);
        route(x, 0, 7, -1, -1, -1, -1);
        for (int what = 0; what <= 3; what++) {
            new Run().leaves(-1, "route", 0, 7, what);
        }
        Run last = new Run().then("link", 6, 7, 2, 99, 98).then("link", 7, 5, 0, 97, 96).then("ticks", 9);
        route(last, 6, 5, 196, 7, 2, 7);
        route(last, 6, 7, 99, 7, 2, -1);
    }

    private static void routeToItself() {
        Edges.of("Terms", "A ROUTE from x to d (unlike ones)");
        Run[] runs = {new Run(), Scenes.star(), Scenes.busy()};
        for (Run x : runs) {
            for (int router = 0; router < 8; router++) {
                route(x, router, router, 0, -1, -1, -1);
            }
        }
    }

    private static void routeRefuses() {
        Edges.of("Promise 13", "by whom ACROSS (3; NONE: INSIDE). BAD.");
        Run x = Scenes.busy();
        for (int none : NO_ROUTERS) {
            x.leaves(-2, "route", none, 1, 0).leaves(-2, "route", 1, none, 3).leaves(-2, "route", none, none, 0);
        }
        int[] none = {-1, 4, 5, Integer.MIN_VALUE, Integer.MAX_VALUE};
        for (int what : none) {
            x.leaves(-2, "route", 0, 1, what).leaves(-2, "route", 0, 0, what).leaves(-2, "route", 0, 7, what);
        }
    }

    private static void truly() {
        Edges.of("Terms", "TRULY: the least cost from x to d over all LINKS that are up (FAR: none).");
        Run x = new Run().leaves(9999, "truly", 0, 7).leaves(0, "truly", 0, 0).leaves(0, "truly", 7, 7);
        x.then("link", 0, 3, 1, 1, 99).then("link", 7, 3, 2, 98, 2).leaves(3, "truly", 0, 7).leaves(197, "truly", 7, 0);
        x.then("link", 0, 7, 0, 4, 4).due(3, "truly", 0, 7).due(4, "truly", 7, 0).then("set", 0, 0).due(4, "truly", 0, 7);
        x.then("set", 2, 0).leaves(9999, "truly", 0, 7).due(98, "truly", 7, 3).then("cost", 1, 0, 5).due(5, "truly", 7, 3);
        Run line = new Run();
        for (int i = 6; i >= 0; i--) {
            line.then("link", i, i + 1, i % 3, 99, 98);
        }
        line.due(693, "truly", 0, 7).due(686, "truly", 7, 0);
    }

    private static void trulyRefuses() {
        Edges.of("Promise 15", "TRULY. BAD.");
        Run x = Scenes.busy();
        for (int none : NO_ROUTERS) {
            x.leaves(-2, "truly", none, 1).leaves(-2, "truly", 1, none).leaves(-2, "truly", none, none);
        }
    }

    /** Link 0, five pairs side by side, link 11. */
    private static Run pairs() {
        Run x = new Run().then("link", 0, 1, 0, 1, 1);
        for (int i = 0; i < 10; i++) {
            x.then("link", 1 + i / 2, 2 + i / 2, i % 3, 1 + i, 99);
        }
        return x.then("link", 7, 6, 2, 1, 1);
    }

    private static void cuts() {
        Edges.of("Terms", "CUTS (bits): LINKS that are up without each of which alone there's TRULY no way from x to d");
        Run x = pairs().leaves(1 + 2048, "cuts", 0, 7).leaves(1 + 2048, "cuts", 7, 0).leaves(0, "cuts", 1, 6).leaves(1, "cuts", 0, 1);
        x.due(2048, "cuts", 2, 7);
        x.then("set", 1, 0).due(1 + 4 + 2048, "cuts", 0, 7).due(4, "cuts", 2, 1);
        x.then("set", 10, 0).due(1 + 4 + 512 + 2048, "cuts", 0, 7);
        Run line = Scenes.line(1, 0, 7, 99).due(127, "cuts", 0, 7).due(64, "cuts", 7, 6);
        line.then("link", 0, 7, 1, 99, 99).due(0, "cuts", 0, 7);
    }

    private static void cutsOnlyIfThereIsAWay() {
        Edges.of("Terms", "but with all there is.");
        new Run().leaves(0, "cuts", 0, 1);
        Run x = pairs().then("set", 1, 0).then("set", 2, 0).leaves(0, "cuts", 0, 7).leaves(1, "cuts", 0, 1);
        for (int router = 0; router < 8; router++) {
            x.due(0, "cuts", router, router);
        }
        Scenes.line(0, 0, 6, 1).due(0, "cuts", 0, 7).due(0, "cuts", 7, 0).due(63, "cuts", 0, 6);
    }

    private static void cutsRefuses() {
        Edges.of("Promise 16", "CUTS. BAD.");
        Run x = Scenes.busy();
        for (int none : NO_ROUTERS) {
            x.leaves(-2, "cuts", none, 1).leaves(-2, "cuts", 1, none).leaves(-2, "cuts", none, none);
        }
    }
}

/** Promises 1 to 7: the edges of links, of routers by them, and of what a router is taken for. */
final class EdgesOfLinks {
    private EdgesOfLinks() {
    }

    static void run() {
        noLinks();
        nothingYet();
        calls();
        routers();
        linksAtMost();
        unlikeRouters();
        areas();
        costs();
        upAtFirst();
        in();
        border();
        constants();
        aLink();
        linkRefuses();
        linkIsFull();
        setAsItWas();
        setRefuses();
        cost();
        costRefuses();
        told();
        toldRefuses();
        router();
        routerKnows();
        routerStale();
        routerRefuses();
        takenForOneInAnArea();
        takenForABorder();
        takenForOneInTheBackboneAlone();
        takenRefuses();
    }

    private static void noLinks() {
        Edges.of("Promise 1", "No LINKS.");
        Run x = new Run();
        x.due(0, "count", 0).due(0, "count", 1).due(0, "image");
        x.leaves(-2, "told", 0, 0).leaves(-2, "set", 0, 1).leaves(-2, "cost", 0, 0, 1).leaves(-2, "broken", 0, 0, 1);
        x.leaves(-12, "tells", 0, 0, 4);
        x.due(0, "link", 0, 1, 0, 1, 1).due(1, "count", 0);
        new Run().due(0, "count", 0).leaves(-3, "back");
    }

    private static void nothingYet() {
        Edges.of("Promise 1", "`LinkRouter()`");
        Run x = new Run();
        for (int what = 0; what <= 5; what++) {
            x.due(0, "count", what);
        }
        for (int router = 0; router < 8; router++) {
            for (int what = 0; what <= 3; what++) {
                x.due(0, "router", router, what);
            }
            x.due(-13, "taken", router, 0).due(0, "route", router, router, 0).due(9999, "truly", router, (router + 1) % 8);
        }
        x.due(0, "tick").due(0, "count", 5).due(1, "count", 2);
    }

    /** The last of the calls for which something is promised. */
    private static void calls() {
        Edges.of("What it is", "An object is used for at most 512 calls after it has been made");
        Run x = new Run().then("link", 0, 1, 0, 3, 3);
        for (int i = 0; i < 254; i++) {
            x.then("ticks", 80).then("film", i % 4, i % 8);
        }
        x.due(3, "route", 0, 1, 0).due(254 * 80, "count", 2);
        Check.holds("no call is left", x.due(1, "taken", 1, 2).isSpent());
    }

    private static void routers() {
        Edges.of("Terms", "ROUTERS 0 .. 7.");
        Run x = Scenes.busy();
        int[] none = {-1, 8, Integer.MIN_VALUE, Integer.MAX_VALUE};
        for (int router : none) {
            x.leaves(-2, "link", router, 1, 0, 1, 1).leaves(-2, "link", 1, router, 0, 1, 1);
            x.leaves(-2, "router", router, 0).leaves(-2, "taken", router, 0);
            x.leaves(-2, "advert", router, 0, 0, 0).leaves(-2, "advert", 0, router, 0, 0);
            x.leaves(-2, "within", router, 0, 0, 0).leaves(-2, "within", 0, router, 0, 0);
            x.leaves(-2, "route", router, 0, 0).leaves(-2, "route", 0, router, 0);
            x.leaves(-2, "packet", router, 0, 0).leaves(-2, "packet", 0, router, 0);
            x.leaves(-2, "truly", router, 0).leaves(-2, "truly", 0, router);
            x.leaves(-2, "cuts", router, 0).leaves(-2, "cuts", 0, router);
            x.leaves(-2, "broken", 0, router, 0).leaves(-2, "broken", 0, 0, router);
            x.leaves(-2, "drawn", router, 0).leaves(-2, "chance", router, 0, 1, 0);
            x.leaves(-2, "tells", 0, router, 0).leaves(-2, "film", 0, router);
        }
        Run both = new Run().due(0, "link", 0, 7, 0, 2, 3).due(1, "link", 7, 0, 0, 4, 5).then("ticks", 4);
        both.due(1, "router", 0, 0).due(1, "router", 7, 0).due(2, "taken", 0, 0).due(2, "taken", 7, 0);
        both.due(3, "advert", 0, 7, 0, 2).due(3, "advert", 7, 0, 0, 2);
        both.due(2, "within", 0, 7, 0, 0).due(3, "within", 7, 0, 0, 0).due(2, "route", 0, 7, 0).due(3, "route", 7, 0, 0);
        both.due(1, "packet", 0, 7, 0).due(1, "packet", 7, 0, 0).due(2, "truly", 0, 7).due(3, "truly", 7, 0);
        both.due(0, "cuts", 0, 7).due(0, "cuts", 7, 0).due(4, "broken", 0, 7, 0).due(5, "broken", 0, 0, 7);
        both.due(2, "drawn", 0, 3).due(2, "drawn", 7, 3).due(1, "chance", 0, 3, 1, 0).due(1, "chance", 7, 3, 1, 0);
        both.due(8, "film", 0, 7).due(-1, "tells", 0, 7, 0).due(8, "film", 0, 0).due(-1, "tells", 0, 0, 0);
    }

    private static void linksAtMost() {
        Edges.of("Terms", "LINKS (12 at most, numbered from 0)");
        Run x = new Run();
        for (int i = 0; i < 12; i++) {
            x.due(i, "count", 0).leaves(-2, "told", i, 0).due(i, "link", i % 7, 7, i % 3, 1 + i, 99 - i);
        }
        x.leaves(-4, "link", 0, 1, 0, 1, 1).due(12, "count", 0).due(12, "count", 1).leaves(-2, "told", 12, 0);
        for (int i = 0; i < 12; i++) {
            x.due(i % 7, "told", i, 0).due(1 + i, "told", i, 3).due(99 - i, "told", i, 4);
        }
    }

    private static void unlikeRouters() {
        Edges.of("Terms", "are between two unlike ROUTERS (ENDS one and two)");
        Run x = new Run();
        for (int router = 0; router < 8; router++) {
            x.leaves(-2, "link", router, router, 0, 1, 1);
        }
        x.due(0, "count", 0).due(0, "link", 3, 4, 0, 1, 1).due(1, "link", 4, 3, 0, 1, 1).due(2, "link", 3, 4, 0, 1, 1);
    }

    private static void areas() {
        Edges.of("Terms", "in an AREA (0 .. 2)");
        Run x = new Run();
        for (int area = 0; area <= 2; area++) {
            x.due(area, "link", 0, 1, area, 1, 1).due(area, "told", area, 2);
        }
        x.then("ticks", 3);
        for (int area = 0; area <= 2; area++) {
            x.due(1, "within", 0, 1, area, 0).due(1 << area, "advert", 0, 1, area, 2);
        }
        int[] none = {-1, 3, Integer.MIN_VALUE, Integer.MAX_VALUE};
        for (int area : none) {
            x.leaves(-2, "link", 0, 1, area, 1, 1).leaves(-2, "within", 0, 1, area, 0).leaves(-2, "advert", 0, 1, area, 0);
        }
    }

    private static void costs() {
        Edges.of("Terms", "have a COST from one and a COST from two (1 .. 99)");
        Run x = new Run().due(0, "link", 0, 1, 0, 1, 99).due(1, "link", 0, 1, 0, 99, 1);
        x.due(1, "told", 0, 3).due(99, "told", 0, 4).due(99, "told", 1, 3).due(1, "told", 1, 4);
        x.due(1, "cost", 0, 0, 99).due(99, "cost", 0, 1, 1).due(99, "cost", 0, 0, 1).due(1, "told", 0, 3);
        int[] none = {0, 100, -1, Integer.MIN_VALUE, Integer.MAX_VALUE};
        for (int v : none) {
            x.leaves(-2, "link", 0, 1, 0, v, 1).leaves(-2, "link", 0, 1, 0, 1, v);
            x.leaves(-2, "cost", 0, 0, v).leaves(-2, "cost", 0, 1, v);
        }
    }

    private static void upAtFirst() {
        Edges.of("Terms", "are up or down (up at first)");
        Run x = new Run().then("link", 0, 1, 0, 1, 1).due(1, "told", 0, 5).due(1, "count", 1);
        x.then("set", 0, 0).due(0, "told", 0, 5).due(0, "count", 1);
        x.then("link", 0, 1, 0, 1, 1).due(1, "told", 1, 5).due(0, "told", 0, 5).due(1, "count", 1);
    }

    private static void in() {
        Edges.of("Terms", "A ROUTER is IN an AREA, if it has a LINK of it that is up.");
        Run x = new Run().due(0, "router", 7, 0);
        x.then("link", 0, 7, 2, 1, 1).due(4, "router", 0, 0).due(4, "router", 7, 0).due(0, "router", 1, 0);
        x.then("link", 7, 0, 2, 1, 1).then("link", 7, 1, 1, 1, 1).due(6, "router", 7, 0).due(2, "router", 1, 0);
        x.then("set", 0, 0).due(4, "router", 0, 0).due(6, "router", 7, 0);
        x.then("set", 1, 0).due(0, "router", 0, 0).due(2, "router", 7, 0);
        x.then("set", 0, 1).due(4, "router", 0, 0).due(6, "router", 7, 0);
    }

    private static void border() {
        Edges.of("Terms", "A BORDER is IN AREA 0 and in another one.");
        boolean[] isBorder = {false, false, false, true, false, true, false, true};
        for (int bits = 0; bits < 8; bits++) {
            Run x = new Run();
            for (int area = 0; area <= 2; area++) {
                x.then("link", 0, 1 + area, area, 1, 1);
            }
            for (int area = 0; area <= 2; area++) {
                x.then("set", area, bits >> area & 1);
            }
            x.due(bits, "router", 0, 0).due(isBorder[bits] ? 1 : 0, "router", 0, 1).due(0, "router", 1, 1);
        }
    }

    private static void constants() {
        Edges.of("Terms", "NONE is -1; FAR is 9999.");
        Check.due("NONE", LinkRouter.NONE, -1);
        new Run().due(9999, "truly", 0, 1).due(9999, "within", 0, 1, 0, 0).due(-1, "within", 0, 1, 0, 1);
        Edges.of("Terms", "BAD (-2: a number is none such or not as told), STATE (-3), FULL (-4)");
        Check.due("BAD", LinkRouter.BAD, -2);
        Check.due("STATE", LinkRouter.STATE, -3);
        Check.due("FULL", LinkRouter.FULL, -4);
    }

    private static void aLink() {
        Edges.of("Promise 2", "A LINK: its number.");
        Run x = new Run().due(0, "link", 2, 5, 1, 3, 4);
        int[] due = {2, 5, 1, 3, 4, 1};
        for (int what = 0; what <= 5; what++) {
            x.due(due[what], "told", 0, what);
        }
        x.due(1, "link", 5, 2, 2, 4, 3).due(2, "image").due(2, "link", 0, 1, 0, 1, 1);
    }

    private static void linkRefuses() {
        Edges.of("Promise 2", "BAD; FULL.");
        Run x = new Run().then("link", 0, 1, 0, 1, 1);
        int[][] bad = {
            {-1, 1, 0, 1, 1}, {8, 1, 0, 1, 1}, {0, -1, 0, 1, 1}, {0, 8, 0, 1, 1}, {6, 6, 0, 1, 1}, {0, 1, -1, 1, 1},
            {0, 1, 3, 1, 1}, {0, 1, 0, 0, 1}, {0, 1, 0, 100, 1}, {0, 1, 0, 1, 0}, {0, 1, 0, 1, 100}, {8, 8, 3, 0, 0},
        };
        for (int[] args : bad) {
            x.leaves(-2, "link", args);
        }
        x.due(1, "link", 0, 1, 0, 1, 1);
    }

    private static void linkIsFull() {
        Edges.of("Promise 2", "FULL.");
        Run x = Scenes.busy().due(11, "count", 0).due(11, "link", 6, 7, 0, 1, 1);
        x.leaves(-4, "link", 6, 7, 0, 1, 1).leaves(-4, "link", 0, 1, 1, 99, 99);
        x.then("set", 0, 0).leaves(-4, "link", 6, 7, 0, 1, 1);
        x.due(11, "back").due(11, "link", 6, 7, 0, 1, 1).leaves(-4, "link", 6, 7, 0, 1, 1);
    }

    private static void setAsItWas() {
        Edges.of("Promise 3", "A LINK is up (1), down (0): as it was.");
        Run x = Scenes.full();
        for (int link = 0; link <= 11; link += 11) {
            x.due(1, "set", link, 1).due(1, "told", link, 5).due(1, "set", link, 0).due(0, "told", link, 5);
            x.due(0, "set", link, 0).due(0, "told", link, 5).due(0, "set", link, 1).due(1, "told", link, 5);
        }
        x.due(11, "count", 1).due(0, "set", 10, 1).due(12, "count", 1);
    }

    private static void setRefuses() {
        Edges.of("Promise 3", "BAD.");
        Run x = Scenes.busy();
        int[][] bad = {
            {-1, 0}, {11, 0}, {12, 0}, {Integer.MIN_VALUE, 0}, {Integer.MAX_VALUE, 0}, {0, -1}, {0, 2}, {10, -1}, {10, 2},
            {0, Integer.MIN_VALUE}, {0, Integer.MAX_VALUE},
        };
        for (int[] args : bad) {
            x.leaves(-2, "set", args);
        }
        Scenes.full().leaves(-2, "set", 12, 0).leaves(-2, "set", -1, 1);
    }

    private static void cost() {
        Edges.of("Promise 4", "COST of a LINK from its END (0 one, 1 two) becomes v: what it was.");
        Run x = Scenes.full();
        x.due(20, "cost", 11, 0, 99).due(20, "cost", 11, 1, 1).due(99, "told", 11, 3).due(1, "told", 11, 4);
        x.due(99, "cost", 11, 0, 99).due(1, "cost", 11, 1, 2).due(99, "cost", 11, 0, 7);
        x.due(2, "cost", 0, 0, 1).due(1, "cost", 0, 1, 99).due(1, "told", 0, 3).due(99, "told", 0, 4);
        x.then("set", 0, 0).due(99, "cost", 0, 1, 5).due(5, "told", 0, 4);
    }

    private static void costRefuses() {
        Edges.of("Promise 4", "BAD.");
        Run x = Scenes.busy();
        int[][] bad = {
            {-1, 0, 5}, {11, 0, 5}, {12, 0, 5}, {Integer.MIN_VALUE, 0, 5}, {Integer.MAX_VALUE, 0, 5}, {0, -1, 5}, {0, 2, 5},
            {0, Integer.MAX_VALUE, 5}, {0, 0, 0}, {0, 1, 0}, {0, 0, 100}, {0, 1, 100}, {0, 0, -5},
        };
        for (int[] args : bad) {
            x.leaves(-2, "cost", args);
        }
        Scenes.full().leaves(-2, "cost", 12, 0, 5);
    }

    private static void told() {
        Edges.of("Promise 5", "END one (what 0), two (1), AREA (2), COSTS (3, 4), whether it is up (5; 1, 0).");
        Run x = Scenes.busy().then("link", 7, 0, 2, 99, 1);
        int[] first = {0, 1, 0, 2, 1, 1};
        int[] last = {7, 0, 2, 99, 1, 1};
        int[] down = {7, 5, 2, 8, 8, 0};
        for (int what = 0; what <= 5; what++) {
            x.due(first[what], "told", 0, what).due(last[what], "told", 11, what).leaves(down[what], "told", 10, what);
        }
    }

    private static void toldRefuses() {
        Edges.of("Promise 5", "BAD.");
        Run x = Scenes.busy();
        int[][] bad = {
            {0, -1}, {0, 6}, {0, Integer.MIN_VALUE}, {0, Integer.MAX_VALUE}, {-1, 0}, {11, 0}, {12, 0}, {Integer.MIN_VALUE, 5},
            {Integer.MAX_VALUE, 5},
        };
        for (int[] args : bad) {
            x.leaves(-2, "told", args);
        }
        Scenes.full().leaves(-2, "told", 12, 0);
    }

    private static void router() {
        Edges.of("Promise 6", "AREAS in which it is (what 0; bits), whether it is a BORDER (1; 1, 0)");
        Run x = new Run().due(0, "router", 0, 0).due(0, "router", 0, 1);
        x.then("link", 0, 7, 0, 1, 1).due(1, "router", 0, 0).due(0, "router", 0, 1);
        x.then("link", 0, 7, 1, 1, 1).due(3, "router", 0, 0).due(1, "router", 0, 1);
        x.then("link", 0, 7, 2, 1, 1).due(7, "router", 7, 0).due(1, "router", 7, 1);
        x.then("set", 0, 0).leaves(6, "router", 7, 0).leaves(0, "router", 7, 1);
    }

    private static void routerKnows() {
        Edges.of("Promise 6", "how many ADVERTS it KNOWS (2)");
        Run x = Scenes.line(0, 0, 2, 1).due(0, "router", 0, 2);
        x.then("tick").due(1, "router", 0, 2).due(0, "router", 3, 2);
        x.then("tick").due(2, "router", 0, 2).due(3, "router", 1, 2);
        x.then("tick").leaves(3, "router", 0, 2).due(3, "router", 2, 2);
        Run star = Scenes.star().leaves(6, "router", 0, 2);
        star.due(2, "router", 1, 2).due(2, "router", 2, 2).due(2, "router", 3, 2).due(12, "count", 5);
        Scenes.line(2, 6, 7, 1).then("tick").due(1, "router", 6, 2).due(1, "router", 7, 2).then("tick").due(2, "router", 6, 2)
            .due(2, "router", 7, 2);
    }

    private static void routerStale() {
        Edges.of("Promise 6", "of these STALE (3)");
        Run x = Scenes.triangle().due(0, "router", 0, 3).due(0, "router", 3, 3);
        x.then("cost", 0, 0, 5).leaves(1, "router", 0, 3).due(1, "router", 1, 3).due(1, "router", 2, 3).due(0, "router", 3, 3);
        x.then("set", 0, 0).due(2, "router", 0, 3);
        x.then("set", 2, 0).due(3, "router", 2, 3);
        x.then("tick").due(2, "router", 0, 3).due(2, "router", 1, 3).due(2, "router", 2, 3);
        Scenes.line(2, 6, 7, 1).then("ticks", 2).then("cost", 0, 1, 9).due(1, "router", 6, 3).due(1, "router", 7, 3);
    }

    private static void routerRefuses() {
        Edges.of("Promise 6", "of these STALE (3). BAD.");
        Run x = Scenes.busy();
        int[][] bad = {
            {-1, 0}, {8, 0}, {Integer.MIN_VALUE, 3}, {Integer.MAX_VALUE, 3}, {0, -1}, {0, 4}, {7, -1}, {7, 4},
            {0, Integer.MIN_VALUE}, {0, Integer.MAX_VALUE}, {8, 4},
        };
        for (int[] args : bad) {
            x.leaves(-2, "router", args);
        }
    }

    private static void takenForOneInAnArea() {
        Edges.of("Promise 7", "IN an AREA (kind 0)");
        Run x = new Run().leaves(-13, "taken", 0, 0);
        for (int i = 0; i < 12; i++) {
            x.then("link", 0, 7, 2, 1, 1).due(i + 1, "taken", 0, 0).due(i + 1, "taken", 7, 0);
        }
        x.leaves(-13, "taken", 1, 0);
        for (int i = 0; i < 11; i++) {
            x.then("set", i, 0).due(11 - i, "taken", 0, 0);
        }
        x.then("set", 11, 0).leaves(-13, "taken", 0, 0).leaves(-13, "taken", 7, 0);
    }

    private static void takenForABorder() {
        Edges.of("Promise 7", "for a BORDER (1)");
        Run x = Scenes.star().leaves(3, "taken", 0, 1).leaves(-13, "taken", 1, 1).leaves(-13, "taken", 2, 1);
        x.then("set", 1, 0).due(2, "taken", 0, 1);
        x.then("set", 2, 0).leaves(-13, "taken", 0, 1);
        x.then("set", 1, 1).due(2, "taken", 0, 1);
        x.then("set", 2, 1).then("set", 0, 0).leaves(-13, "taken", 0, 1).due(2, "taken", 0, 0);
    }

    private static void takenForOneInTheBackboneAlone() {
        Edges.of("Promise 7", "for one IN AREA 0 alone (2)");
        Run x = Scenes.star().leaves(-13, "taken", 0, 2).leaves(1, "taken", 1, 2).leaves(-13, "taken", 2, 2);
        x.leaves(-13, "taken", 4, 2);
        x.then("set", 1, 0).leaves(-13, "taken", 0, 2);
        x.then("set", 2, 0).due(1, "taken", 0, 2).leaves(-13, "taken", 3, 2);
        x.then("set", 0, 0).leaves(-13, "taken", 0, 2).leaves(-13, "taken", 1, 2);
    }

    private static void takenRefuses() {
        Edges.of("Promise 7", "BAD; -13.");
        Run x = Scenes.busy();
        int[][] bad = {
            {-1, 0}, {8, 0}, {Integer.MIN_VALUE, 1}, {Integer.MAX_VALUE, 2}, {0, -1}, {0, 3}, {7, -1}, {7, 3},
            {0, Integer.MIN_VALUE}, {0, Integer.MAX_VALUE}, {8, 3},
        };
        for (int[] args : bad) {
            x.leaves(-2, "taken", args);
        }
        x.leaves(-13, "taken", 7, 1).leaves(-13, "taken", 7, 2);
    }
}

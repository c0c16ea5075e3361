/** Promise 14: the edges of what a packet meets. */
final class EdgesOfPackets {
    private EdgesOfPackets() {
    }

    static void run() {
        toItself();
        noRoute();
        noLink();
        overTheAreas();
        leastCost();
        knownNow();
        round();
        howItEnds();
        mostHops();
        hops();
        refuses();
    }

    /** How it ends, how many hops, what they cost, and the routers behind them, of nine. */
    private static void packet(Run x, int from, int to, int end, int cost, int... behind) {
        x.leaves(end, "packet", from, to, 0).due(behind.length, "packet", from, to, 1).due(cost, "packet", from, to, 2);
        for (int hop = 0; hop < 9; hop++) {
            x.due(hop < behind.length ? behind[hop] : -1, "packet", from, to, 10 + hop);
        }
    }

    private static void toItself() {
        Edges.of("Promise 14", "(to itself it ARRIVES with 0 hops)");
        packet(new Run(), 0, 0, 1, 0);
        packet(new Run(), 7, 7, 1, 0);
        packet(Scenes.star(), 0, 0, 1, 0);
    }

    private static void noRoute() {
        Edges.of("Terms", "LOST: no ROUTE");
        packet(new Run(), 0, 7, 0, 0);
        packet(Scenes.line(0, 0, 2, 1), 0, 1, 0, 0);
        packet(Scenes.line(0, 0, 2, 3).then("ticks", 3).then("set", 1, 0).then("tick"), 0, 2, 0, 3, 1);
        packet(Scenes.star(), 2, 3, 0, 0);
    }

    private static void noLink() {
        Edges.of("Terms", "LOST: no ROUTE, or no such LINK");
        Run x = Scenes.line(0, 0, 2, 3).then("ticks", 3).then("set", 1, 0);
        packet(x, 0, 2, 0, 3, 1);
        packet(x, 1, 2, 0, 0);
        packet(x.then("set", 1, 1), 0, 2, 1, 6, 1, 2);
    }

    private static void overTheAreas() {
        Edges.of("Terms", "of INSIDE's or ACROSS's AREA, between both");
        Run x = new Run().then("link", 0, 1, 1, 5, 5).then("link", 0, 1, 2, 9, 9).then("link", 0, 2, 1, 1, 1).then("ticks", 4);
        packet(x, 0, 1, 1, 5, 1);
        packet(x.then("set", 0, 0), 0, 1, 0, 0);
        Run across = new Run().then("link", 0, 1, 1, 5, 5).then("link", 0, 1, 2, 1, 1).then("link", 1, 7, 0, 2, 2).then("ticks", 9);
        packet(across, 0, 7, 1, 3, 1, 7);
        packet(across.then("cost", 1, 0, 50), 0, 7, 1, 52, 1, 7);
        packet(across.then("tick"), 0, 7, 1, 7, 1, 7);
    }

    private static void leastCost() {
        Edges.of("Terms", "of least COST from there (of like ones the least)");
        Run x = new Run().then("link", 0, 1, 0, 5, 1).then("link", 1, 0, 0, 9, 3).then("link", 0, 1, 0, 4, 2).then("ticks", 3);
        packet(x, 0, 1, 1, 3, 1);
        packet(x, 1, 0, 1, 1, 0);
        packet(x.then("cost", 1, 1, 4), 0, 1, 1, 4, 1);
        packet(x.then("set", 2, 0), 0, 1, 1, 4, 1);
        packet(x.then("set", 1, 0), 0, 1, 1, 5, 1);
        Run full = new Run();
        for (int i = 0; i < 12; i++) {
            full.then("link", i % 2 == 0 ? 0 : 7, i % 2 == 0 ? 7 : 0, 0, 20 - i, 20 - i);
        }
        packet(full.then("ticks", 3), 0, 7, 1, 9, 7);
        packet(full.then("set", 11, 0), 7, 0, 1, 10, 0);
    }

    private static void knownNow() {
        Edges.of("Terms", "(by what it KNOWS now)");
        Run x = Scenes.triangle().then("cost", 2, 0, 1);
        packet(x, 0, 2, 1, 3, 1, 2);
        packet(x.then("tick"), 0, 2, 1, 1, 2);
    }

    private static void round() {
        Edges.of("Terms", "ROUND: it isn't there behind its 9th hop.");
        Run x = Scenes.triangle().then("set", 1, 0).then("tick");
        packet(x, 0, 2, 2, 9, 1, 0, 1, 0, 1, 0, 1, 0, 1);
        packet(x, 1, 2, 2, 9, 0, 1, 0, 1, 0, 1, 0, 1, 0);
        packet(x.then("cost", 0, 0, 99).then("cost", 0, 1, 98), 0, 2, 2, 5 * 99 + 4 * 98, 1, 0, 1, 0, 1, 0, 1, 0, 1);
    }

    private static void howItEnds() {
        Edges.of("Promise 14", "how it ends (what 0: 1 ARRIVES, 0 LOST, 2 ROUND)");
        Run x = Scenes.triangle().leaves(1, "packet", 0, 2, 0).then("set", 1, 0).leaves(0, "packet", 0, 2, 0);
        x.then("tick").leaves(2, "packet", 0, 2, 0).then("tick").leaves(1, "packet", 0, 2, 0).due(9, "packet", 0, 2, 2);
    }

    private static void mostHops() {
        Edges.of("Promise 14", "how many hops (1), what its LINKS cost together (2)");
        Run x = Scenes.line(0, 0, 7, 99).then("ticks", 9);
        packet(x, 0, 7, 1, 693, 1, 2, 3, 4, 5, 6, 7);
        packet(x, 7, 0, 1, 693, 6, 5, 4, 3, 2, 1, 0);
        packet(x.then("set", 6, 0), 0, 7, 0, 594, 1, 2, 3, 4, 5, 6);
    }

    private static void hops() {
        Edges.of("Promise 14", "the ROUTER behind hop what - 10 (10 .. 18; NONE)");
        Run x = Scenes.triangle().leaves(1, "packet", 0, 2, 10).leaves(2, "packet", 0, 2, 11).leaves(-1, "packet", 0, 2, 12)
            .leaves(-1, "packet", 0, 2, 18).leaves(0, "packet", 2, 0, 11);
        x.then("set", 1, 0).then("tick").leaves(1, "packet", 0, 2, 10).leaves(1, "packet", 0, 2, 18).leaves(0, "packet", 0, 2, 17);
    }

    private static void refuses() {
        Edges.of("Promise 14", "(10 .. 18; NONE). BAD.");
        Run x = Scenes.busy();
        int[] none = {-1, 3, 9, 19, 4, 8, 20, Integer.MIN_VALUE, Integer.MAX_VALUE};
        for (int what : none) {
            x.leaves(-2, "packet", 0, 1, what).leaves(-2, "packet", 0, 0, what);
        }
        int[] routers = {-1, 8, Integer.MIN_VALUE, Integer.MAX_VALUE};
        for (int router : routers) {
            x.leaves(-2, "packet", router, 1, 0).leaves(-2, "packet", 1, router, 18).leaves(-2, "packet", router, router, 0);
        }
    }
}

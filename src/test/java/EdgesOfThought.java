/** Promises 17 to 20: the edges of what would be. */
final class EdgesOfThought {
    private static final int[] SEEDS = {
        0, 1, 2, 3, -1, -2, -77, 12345, 1 << 30, Integer.MAX_VALUE, Integer.MAX_VALUE - 1, Integer.MAX_VALUE - 3,
        Integer.MIN_VALUE, Integer.MIN_VALUE + 1,
    };
    private static final int[] NO_ROUTERS = {-1, 8, Integer.MIN_VALUE, Integer.MAX_VALUE};

    private EdgesOfThought() {
    }

    static void run() {
        quietAtOnce();
        quietThoughNothingIsTaken();
        quietAfterSending();
        settledAtMost();
        settled();
        settledStale();
        settledRefuses();
        late();
        broken();
        brokenIsDown();
        brokenRefuses();
        drawnByTurns();
        drawnDownAlready();
        drawnItself();
        drawnLate();
        drawnRefuses();
        seedsOfChance();
        chanceOfAll();
        chanceBehindTheBreaks();
        lowestTerms();
        chanceRefuses();
    }

    private static void quietAtOnce() {
        Edges.of("Terms", "TICKS till there is a QUIET one (80 at most): how many, with that one");
        new Run().leaves(1, "settled", 0).leaves(0, "settled", 1).leaves(0, "settled", 2);
        Scenes.triangle().leaves(1, "settled", 0).leaves(0, "settled", 1).leaves(0, "settled", 2);
    }

    private static void quietThoughNothingIsTaken() {
        Edges.of("Terms", "QUIET is a TICK in which nothing ARRIVED (taken or not)");
        Run x = Scenes.line(0, 0, 1, 1).then("tick").then("set", 0, 0).leaves(2, "settled", 0).leaves(0, "settled", 1);
        x.then("tick").due(1, "settled", 0);
        Scenes.line(0, 0, 1, 1).then("tick").leaves(2, "settled", 0).then("tick").due(1, "settled", 0);
    }

    private static void quietAfterSending() {
        Edges.of("Terms", "and nothing was SENT.");
        Scenes.line(0, 0, 1, 1).leaves(3, "settled", 0).then("tick").due(2, "settled", 0);
        Scenes.line(0, 0, 7, 1).leaves(9, "settled", 0).leaves(56, "settled", 1);
        Scenes.line(0, 0, 1, 1).then("ticks", 20).leaves(3, "settled", 0).then("ticks", 2).due(1, "settled", 0);
        Scenes.line(0, 0, 1, 1).then("ticks", 19).leaves(1, "settled", 0);
    }

    /** On a line of eight three tell anew one behind another: something is always on its way. */
    private static Run neverQuiet() {
        return Scenes.line(0, 0, 7, 1).then("ticks", 30).then("cost", 0, 0, 2).then("ticks", 8).then("cost", 6, 1, 2)
            .then("ticks", 7).then("cost", 0, 1, 2).then("ticks", 26);
    }

    private static void settledAtMost() {
        Edges.of("Terms", "(80 at most): how many, with that one; NONE.");
        Run x = neverQuiet();
        int eighty = x.again().ask("ticks", 80);
        Check.holds("some are sent in the 80th", eighty > x.again().ask("ticks", 79));
        Check.holds("some would be in an 81st", x.again().then("ticks", 80).ask("tick") > 0);
        x.leaves(-1, "settled", 0).leaves(eighty, "settled", 1).leaves(0, "settled", 2);
        x.then("ticks", 80).leaves(-1, "settled", 0);
    }

    private static void settled() {
        Edges.of("Promise 17", "SETTLED: how many TICKS (what 0; NONE), MESSAGES (1)");
        Run x = Scenes.line(0, 0, 2, 1).leaves(4, "settled", 0).leaves(6, "settled", 1);
        x.then("tick").leaves(3, "settled", 0).leaves(2, "settled", 1);
        x.then("tick").leaves(2, "settled", 0).leaves(0, "settled", 1);
        x.then("tick").leaves(1, "settled", 0).leaves(0, "settled", 1);
        x.then("cost", 0, 0, 9).leaves(4, "settled", 0).leaves(2, "settled", 1);
    }

    private static void settledStale() {
        Edges.of("Promise 17", "STALE ones of all behind them (2).");
        Run x = Scenes.line(0, 0, 2, 1).then("ticks", 4).then("set", 1, 0).due(2, "router", 0, 3).leaves(3, "settled", 2);
        x.then("set", 0, 0).leaves(6, "settled", 2).then("ticks", 5).leaves(6, "settled", 2);
        x.then("set", 0, 1).then("cost", 0, 0, 50).leaves(4, "settled", 2);
        x.then("set", 1, 1).leaves(0, "settled", 2).then("cost", 1, 1, 50).leaves(0, "settled", 2).due(1, "router", 2, 3);
    }

    private static void settledRefuses() {
        Edges.of("Promise 17", "behind them (2). BAD.");
        int[] none = {-1, 3, 4, Integer.MIN_VALUE, Integer.MAX_VALUE};
        for (int what : none) {
            Scenes.busy().leaves(-2, "settled", what);
            new Run().leaves(-2, "settled", what);
        }
    }

    /**
     * Area 1 from 0 to 2, the backbone from 2 to 5, area 2 from 5 to 7. Link 1 comes up when 1 has
     * passed by with 0's advert: 2 hears of 0 by its next one, 19 ticks and two hops later, and 7
     * five hops behind 2.
     */
    static Run lateRun() {
        return Scenes.line(1, 0, 2, 1).then("link", 2, 3, 0, 1, 1).then("link", 3, 4, 0, 1, 1).then("link", 4, 5, 0, 1, 1)
            .then("link", 5, 6, 2, 1, 1).then("link", 6, 7, 2, 1, 1).then("link", 6, 7, 2, 50, 50)
            .then("ticks", 30).then("set", 1, 0).then("ticks", 72).then("set", 1, 1);
    }

    private static void late() {
        Edges.of("Terms", "In thought: BROKEN is a LINK (down), then 40 TICKS: what a ROUTE costs then.");
        Run x = lateRun().due(1, "advert", 0, 0, 1, 1);
        x.again().then("ticks", 25).due(-1, "route", 7, 0, 0).then("tick").due(7, "route", 7, 0, 0);
        x.leaves(7, "broken", 7, 7, 0).leaves(-1, "broken", 5, 7, 0).leaves(56, "broken", 6, 7, 0).leaves(7, "broken", 7, 0, 7);
    }

    private static void broken() {
        Edges.of("Promise 18", "BROKEN: what the ROUTE costs then; NONE.");
        Run x = Scenes.triangle().leaves(9, "broken", 1, 0, 2).leaves(11, "broken", 0, 0, 1).leaves(3, "broken", 2, 0, 2);
        x.leaves(0, "broken", 0, 0, 0).leaves(0, "broken", 0, 7, 7).leaves(-1, "broken", 0, 0, 7).leaves(-1, "broken", 0, 7, 0);
        x.then("set", 2, 0).leaves(-1, "broken", 1, 0, 2).leaves(-1, "broken", 0, 0, 2).leaves(1, "broken", 1, 0, 1);
        Run last = Scenes.full().leaves(5, "broken", 11, 0, 3).leaves(20, "broken", 6, 0, 3);
        last.then("ticks", 9).due(20, "route", 0, 3, 0).due(1, "told", 11, 5);
    }

    private static void brokenIsDown() {
        Edges.of("Promise 18", "STATE: the LINK is down.");
        Run x = Scenes.busy().leaves(-3, "broken", 10, 0, 1).leaves(-3, "broken", 10, 0, 0);
        x.then("set", 10, 1).due(0, "broken", 10, 0, 0).then("set", 0, 0).leaves(-3, "broken", 0, 0, 7);
    }

    private static void brokenRefuses() {
        Edges.of("Promise 18", "BAD; STATE: the LINK is down.");
        Run x = Scenes.busy();
        int[] none = {-1, 11, 12, Integer.MIN_VALUE, Integer.MAX_VALUE};
        for (int link : none) {
            x.leaves(-2, "broken", link, 0, 1);
        }
        for (int router : NO_ROUTERS) {
            x.leaves(-2, "broken", 0, router, 1).leaves(-2, "broken", 0, 1, router).leaves(-2, "broken", 10, router, 1);
        }
        Scenes.full().leaves(-2, "broken", 12, 0, 1);
    }

    /** Whether a link goes down by a seed, counted in longs. */
    private static boolean isDrawn(int seed, int link) {
        long z = seed & 0xFFFFFFFFL;
        for (int i = 0; i <= link; i++) {
            z = (z * 1103515245L + 12345L) % (1L << 32);
        }
        return z / 512 % 4 == 0;
    }

    private static boolean drawsNone(int seed, int links) {
        for (int link = 0; link < links; link++) {
            if (isDrawn(seed, link)) {
                return false;
            }
        }
        return true;
    }

    /** The least seed from 0 on that draws none of so many links. */
    private static int seedOfNone(int links) {
        int seed = 0;
        while (!drawsNone(seed, links)) {
            seed++;
        }
        return seed;
    }

    /** One link alone is 7's. */
    private static void drawnByTurns() {
        Edges.of("Terms", "by whose turn (z >>> 9) % 4 is 0, z being z * 1103515245 + 12345 (an int; SEED at first) anew for each, go down");
        for (int link = 0; link < 12; link++) {
            Run x = new Run();
            for (int i = 0; i < 12; i++) {
                x.then("link", i == link ? 6 : 0, i == link ? 7 : 1, i % 3, 1, 1);
            }
            for (int seed : SEEDS) {
                x.due(isDrawn(seed, link) ? 1 : 2, "drawn", 7, seed);
            }
        }
        Run x = Scenes.busy();
        x.leaves(x.again().ask("drawn", 4, -5), "drawn", 4, -5);
    }

    private static void drawnDownAlready() {
        Edges.of("Terms", "DRAWN by a SEED: LINKS, by numbers");
        Run x = Scenes.line(0, 0, 1, 1).then("link", 6, 7, 0, 1, 1).then("set", 0, 0);
        for (int seed : SEEDS) {
            x.due(1, "drawn", 0, seed).due(isDrawn(seed, 1) ? 1 : 2, "drawn", 7, seed);
        }
    }

    private static void drawnItself() {
        Edges.of("Terms", "how many ROUTERS (itself, too) a ROUTER has a ROUTE to or is.");
        Run x = new Run().leaves(1, "drawn", 0, 0).leaves(1, "drawn", 7, 5);
        int seed = seedOfNone(7);
        for (int i = 0; i < 7; i++) {
            x.then("link", i, i + 1, 1, 1, 1).due(i + 2, "drawn", 0, seed).due(i == 6 ? 8 : 1, "drawn", 7, seed);
        }
        x.leaves(8, "drawn", 3, seed);
    }

    private static void drawnLate() {
        Edges.of("Terms", "go down, then 40 TICKS: how many ROUTERS");
        int seed = seedOfNone(8);
        lateRun().leaves(8, "drawn", 7, seed).leaves(8, "drawn", 0, seed).leaves(1, "chance", 7, seed, 1, 0);
    }

    private static void drawnRefuses() {
        Edges.of("Promise 19", "DRAWN. BAD.");
        for (int router : NO_ROUTERS) {
            Scenes.busy().leaves(-2, "drawn", router, 1);
        }
        for (int seed : SEEDS) {
            new Run().due(1, "drawn", 0, seed);
        }
    }

    /** 1 is in areas 1 and 2 by links 4 and 5, and no border: from 0 there is truly a way to 2, and no route. */
    private static Run noBorder() {
        Run x = new Run();
        for (int i = 0; i < 4; i++) {
            x.then("link", 5, 6, 0, 1, 1);
        }
        return x.then("link", 0, 1, 1, 1, 1).then("link", 1, 2, 2, 1, 1);
    }

    private static boolean isHit(int seed) {
        return isDrawn(seed, 4) || isDrawn(seed, 5);
    }

    private static int hits(int seed, int m) {
        int hits = 0;
        for (int i = 0; i < m; i++) {
            hits += isHit(seed + i) ? 1 : 0;
        }
        return hits;
    }

    private static void seedsOfChance() {
        Edges.of("Terms", "IN m seeds (1 .. 6), SEED and each 1 more (an int)");
        for (int seed : SEEDS) {
            Run x = noBorder();
            for (int m = 1; m <= 6; m++) {
                int shared = java.math.BigInteger.valueOf(hits(seed, m)).gcd(java.math.BigInteger.valueOf(m)).intValue();
                x.due(hits(seed, m) / shared, "chance", 0, seed, m, 0).due(m / shared, "chance", 0, seed, m, 1);
            }
        }
        int[] none = {0, 7, -1, 12, Integer.MIN_VALUE, Integer.MAX_VALUE};
        for (int m : none) {
            noBorder().leaves(-2, "chance", 0, 1, m, 0).leaves(-2, "chance", 0, 1, m, 1);
        }
    }

    private static void chanceOfAll() {
        Edges.of("Terms", "of these those by which it is all of whom TRULY there's a way to");
        new Run().leaves(1, "chance", 7, 0, 6, 0).leaves(1, "chance", 7, 0, 6, 1);
        Run x = noBorder();
        int seed = seedOfNone(6);
        x.leaves(0, "chance", 0, seed, 1, 0).leaves(1, "chance", 0, seed, 1, 1).leaves(1, "chance", 1, seed, 1, 0);
        x.leaves(0, "chance", 2, seed, 1, 0).leaves(1, "chance", 3, seed, 1, 0);
    }

    private static void chanceBehindTheBreaks() {
        Edges.of("Terms", "by the LINKS that are up then (behind these breaks).");
        Run x = noBorder();
        for (int seed : SEEDS) {
            x.due(isHit(seed) ? 1 : 0, "chance", 0, seed, 1, 0);
        }
        x.then("set", 5, 0).leaves(1, "chance", 0, 3, 6, 0).leaves(1, "chance", 0, 3, 6, 1);
    }

    private static void lowestTerms() {
        Edges.of("Promise 20", "IN m seeds: part 0 above, 1 below the line, in lowest terms.");
        int[][] due = {{0, 1}, {1, 6}, {1, 3}, {1, 2}, {2, 3}, {5, 6}, {1, 1}};
        for (int hits = 0; hits <= 6; hits++) {
            int seed = 0;
            while (hits(seed, 6) != hits) {
                seed++;
            }
            noBorder().leaves(due[hits][0], "chance", 0, seed, 6, 0).leaves(due[hits][1], "chance", 0, seed, 6, 1);
        }
        int[][] dueOfFour = {{0, 1}, {1, 4}, {1, 2}, {3, 4}, {1, 1}};
        for (int hits = 0; hits <= 4; hits++) {
            int seed = 0;
            while (hits(seed, 4) != hits) {
                seed++;
            }
            noBorder().due(dueOfFour[hits][0], "chance", 0, seed, 4, 0).due(dueOfFour[hits][1], "chance", 0, seed, 4, 1);
        }
    }

    private static void chanceRefuses() {
        Edges.of("Promise 20", "in lowest terms. BAD.");
        Run x = Scenes.busy();
        for (int router : NO_ROUTERS) {
            x.leaves(-2, "chance", router, 1, 1, 0);
        }
        int[] none = {-1, 2, Integer.MIN_VALUE, Integer.MAX_VALUE};
        for (int part : none) {
            x.leaves(-2, "chance", 0, 1, 1, part);
        }
        x.leaves(-2, "chance", 0, 1, 0, 0).leaves(-2, "chance", 0, 1, 7, 0).leaves(-2, "chance", 8, 1, 7, 2);
    }
}

/** Promises 19 and 20: breaks that are drawn. */
final class SeedsTest {
    private static final int[] SEEDS = {
        0, 1, 2, 3, 4, 5, 6, 7, 8, 9, 100, 12345, -1, -2, -77, Integer.MAX_VALUE, Integer.MAX_VALUE - 2, Integer.MIN_VALUE,
    };

    private SeedsTest() {
    }

    static void run() {
        drawn();
        chance();
        chanceOfAll();
    }

    /** Whose turn it is to go down, counted in longs. */
    private static boolean[] down(int seed, int links) {
        boolean[] down = new boolean[links];
        long z = seed & 0xFFFFFFFFL;
        for (int i = 0; i < links; i++) {
            z = (z * 1103515245L + 12345L) & 0xFFFFFFFFL;
            down[i] = (z >>> 9) % 4 == 0;
        }
        return down;
    }

    /** A line in the backbone: who is reached from one end on is who stands before the first break. */
    private static void drawn() {
        Check.part("promise 19");
        LinkRouter x = new LinkRouter();
        Check.due("itself", x.drawn(7, 5), 1);
        for (int i = 0; i < 7; i++) {
            x.link(i, i + 1, 0, 1 + i, 9);
        }
        x.set(5, 0);
        for (int seed : SEEDS) {
            boolean[] down = down(seed, 7);
            int due = 1;
            while (due < 8 && due != 6 && !down[due - 1]) {
                due++;
            }
            Check.due("drawn(0, " + seed + ")", x.drawn(0, seed), due);
            Check.due("drawn(7, " + seed + ")", x.drawn(7, seed), down[6] ? 1 : 2);
        }
        Check.due("in thought alone", x.count(1), 6);
        Check.due("in thought alone", x.count(2), 0);
        Check.due("no such router", x.drawn(8, 1), -2);
        Check.due("no such router", x.drawn(-1, 1), -2);
    }

    /** 1 stands in areas 1 and 2, and is no border: from 0 there is truly a way to 2, and no route. */
    private static void chance() {
        Check.part("promise 20");
        LinkRouter x = new LinkRouter();
        x.link(0, 1, 1, 1, 1);
        x.link(1, 2, 2, 1, 1);
        for (int seed : SEEDS) {
            for (int m = 1; m <= 6; m++) {
                int hits = 0;
                for (int i = 0; i < m; i++) {
                    boolean[] down = down(seed + i, 2);
                    hits += down[0] || down[1] ? 1 : 0;
                }
                int above = hits;
                int below = m;
                for (int d = 6; d > 1; d--) {
                    if (above % d == 0 && below % d == 0) {
                        above /= d;
                        below /= d;
                    }
                }
                Check.due("chance(0, " + seed + ", " + m + ", 0)", x.chance(0, seed, m, 0), above);
                Check.due("chance(0, " + seed + ", " + m + ", 1)", x.chance(0, seed, m, 1), below);
            }
        }
        int[][] bad = {
            {8, 1, 1, 0}, {-1, 1, 1, 0}, {0, 1, 0, 0}, {0, 1, 7, 0}, {0, 1, -1, 0}, {0, 1, 1, 2}, {0, 1, 1, -1},
        };
        for (int[] b : bad) {
            Check.due("chance" + java.util.Arrays.toString(b), x.chance(b[0], b[1], b[2], b[3]), -2);
        }
        Check.due("in thought alone", x.count(1), 2);
    }

    private static void chanceOfAll() {
        Check.part("promise 20");
        LinkRouter x = new LinkRouter();
        Check.due("alone: above", x.chance(3, 8, 6, 0), 1);
        Check.due("alone: below", x.chance(3, 8, 6, 1), 1);
        for (int i = 0; i < 7; i++) {
            x.link(i, i + 1, 0, 1, 1);
        }
        for (int seed : SEEDS) {
            Check.due("within one area: above", x.chance(2, seed, 6, 0), 1);
            Check.due("within one area: below", x.chance(2, seed, 6, 1), 1);
        }
    }
}

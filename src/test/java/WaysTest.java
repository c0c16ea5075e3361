/** Promises 12 to 18: ways within areas and across them, packets, and what would be. */
final class WaysTest {
    private WaysTest() {
    }

    static void run() {
        within();
        withinByBoth();
        inside();
        across();
        acrossFromABorder();
        acrossOfLikeOnes();
        routeRefuses();
        packet();
        packetRound();
        packetOverTheCheapest();
        truly();
        cuts();
        settled();
        broken();
    }

    private static void within() {
        Check.part("promise 12");
        LinkRouter x = new LinkRouter();
        x.link(0, 2, 0, 1, 9);
        x.link(0, 1, 0, 2, 9);
        x.link(2, 3, 0, 3, 9);
        x.link(1, 3, 0, 2, 9);
        x.link(3, 4, 0, 1, 1);
        x.link(0, 5, 1, 7, 7);
        x.ticks(8);
        Check.due("to 3 by 1 or 2", x.within(0, 3, 0, 0), 4);
        Check.due("the least first hop of those", x.within(0, 3, 0, 1), 1);
        Check.due("to 4", x.within(0, 4, 0, 0), 5);
        Check.due("by 1, too", x.within(0, 4, 0, 1), 1);
        Check.due("back it is dearer", x.within(4, 0, 0, 0), 19);
        Check.due("by 3", x.within(4, 0, 0, 1), 3);
        Check.due("to itself", x.within(0, 0, 0, 0), 0);
        Check.due("to itself by none", x.within(0, 0, 0, 1), -1);
        Check.due("not within the backbone", x.within(0, 5, 0, 0), 9999);
        Check.due("by none", x.within(0, 5, 0, 1), -1);
        Check.due("within area 1", x.within(0, 5, 1, 0), 7);
        Check.due("within area 2", x.within(0, 5, 2, 0), 9999);
        x.cost(1, 0, 3);
        x.tick();
        Check.due("by 2 alone now", x.within(0, 3, 0, 1), 2);
        x.cost(1, 0, 1);
        x.cost(3, 0, 3);
        x.cost(0, 0, 2);
        x.cost(2, 0, 2);
        x.ticks(2);
        Check.due("again by 1 or 2", x.within(0, 3, 0, 0), 4);
        Check.due("the least, though now it is the nearer one", x.within(0, 3, 0, 1), 1);
        int[][] bad = {
            {8, 0, 0, 0}, {-1, 0, 0, 0}, {0, 8, 0, 0}, {0, -1, 0, 0}, {0, 1, 3, 0}, {0, 1, -1, 0}, {0, 1, 0, 2}, {0, 1, 0, -1},
        };
        for (int[] b : bad) {
            Check.due("within" + java.util.Arrays.toString(b), x.within(b[0], b[1], b[2], b[3]), -2);
        }
    }

    private static void withinByBoth() {
        Check.part("promise 12");
        LinkRouter x = new LinkRouter();
        x.link(0, 1, 0, 4, 5);
        x.tick();
        Check.due("0 knows its own alone", x.within(0, 1, 0, 0), 9999);
        x.tick();
        Check.due("both tell it", x.within(0, 1, 0, 0), 4);
        x.set(0, 0);
        Check.due("what is told, not what is", x.within(0, 1, 0, 0), 4);
        x.tick();
        Check.due("1 alone tells it", x.within(0, 1, 0, 0), 9999);
        x.link(0, 1, 0, 7, 7);
        x.ticks(2);
        Check.due("by another link", x.within(0, 1, 0, 0), 7);
        x.link(0, 1, 0, 6, 8);
        x.ticks(2);
        Check.due("the cheaper of two", x.within(0, 1, 0, 0), 6);
        Check.due("back the other", x.within(1, 0, 0, 0), 7);
    }

    private static void route(LinkRouter x, int from, int to, int cost, int hop, int area, int by) {
        int[] due = {cost, hop, area, by};
        for (int what = 0; what < 4; what++) {
            Check.due("route(" + from + ", " + to + ", " + what + ")", x.route(from, to, what), due[what]);
        }
    }

    private static void inside() {
        Check.part("promise 13");
        LinkRouter x = new LinkRouter();
        route(x, 0, 1, -1, -1, -1, -1);
        route(x, 0, 0, 0, -1, -1, -1);
        x.link(0, 1, 2, 4, 4);
        x.link(0, 1, 1, 4, 4);
        x.ticks(3);
        route(x, 0, 1, 4, 1, 1, -1);
        route(x, 0, 0, 0, -1, -1, -1);
        x.cost(0, 0, 3);
        x.ticks(2);
        route(x, 0, 1, 3, 1, 2, -1);
        x.set(0, 0);
        route(x, 0, 1, 4, 1, 1, -1);
        x.set(1, 0);
        route(x, 0, 1, -1, -1, -1, -1);
    }

    /** Inside goes before across, even if it is dearer. */
    private static void across() {
        Check.part("promise 13");
        LinkRouter x = new LinkRouter();
        x.link(0, 1, 0, 2, 3);
        x.link(1, 3, 1, 4, 5);
        x.link(0, 5, 2, 6, 7);
        x.ticks(12);
        route(x, 0, 3, 6, 1, 0, 1);
        route(x, 3, 0, 8, 1, 1, 1);
        route(x, 3, 5, 14, 1, 1, 1);
        route(x, 5, 3, 13, 0, 2, 0);
        route(x, 3, 1, 5, 1, 1, -1);
        route(x, 3, 7, -1, -1, -1, -1);
        x.link(3, 0, 1, 90, 90);
        x.ticks(12);
        route(x, 0, 3, 90, 3, 1, -1);
        x.set(0, 0);
        x.ticks(12);
        route(x, 3, 5, -1, -1, -1, -1);
    }

    /** A border hears of what is behind by the backbone alone, though area 1 would be cheaper. */
    private static void acrossFromABorder() {
        Check.part("promise 13");
        LinkRouter x = new LinkRouter();
        x.link(0, 1, 0, 10, 10);
        x.link(1, 5, 2, 1, 1);
        x.link(0, 2, 1, 1, 1);
        x.link(2, 1, 0, 1, 1);
        x.ticks(20);
        Check.due("2 would do it for 2", x.advert(0, 2, 1, 35), 2);
        route(x, 0, 5, 11, 1, 0, 1);
        x.set(0, 0);
        x.ticks(5);
        route(x, 0, 5, 3, 2, 1, 2);
    }

    private static void acrossOfLikeOnes() {
        Check.part("promise 13");
        LinkRouter x = new LinkRouter();
        x.link(0, 2, 0, 1, 1);
        x.link(0, 1, 0, 1, 1);
        x.link(2, 5, 1, 1, 1);
        x.link(1, 5, 1, 1, 1);
        x.ticks(12);
        route(x, 0, 5, 2, 1, 0, 1);
        x.cost(3, 0, 2);
        x.ticks(6);
        route(x, 0, 5, 2, 2, 0, 2);
        LinkRouter y = new LinkRouter();
        y.link(0, 3, 2, 2, 2);
        y.link(0, 4, 1, 2, 2);
        y.link(3, 6, 0, 1, 1);
        y.link(4, 6, 0, 1, 1);
        y.ticks(12);
        route(y, 0, 6, 3, 4, 1, 4);
        y.cost(0, 0, 1);
        y.ticks(6);
        route(y, 0, 6, 2, 3, 2, 3);
    }

    private static void routeRefuses() {
        Check.part("promise 13");
        LinkRouter x = new LinkRouter();
        int[][] bad = {{8, 0, 0}, {-1, 0, 0}, {0, 8, 0}, {0, -1, 0}, {0, 0, 4}, {0, 0, -1}};
        for (int[] b : bad) {
            Check.due("route" + java.util.Arrays.toString(b), x.route(b[0], b[1], b[2]), -2);
        }
    }

    private static LinkRouter triangle() {
        LinkRouter x = new LinkRouter();
        x.link(0, 1, 0, 1, 1);
        x.link(1, 2, 0, 2, 2);
        x.link(0, 2, 0, 9, 9);
        return x;
    }

    private static void packet() {
        Check.part("promise 14");
        LinkRouter x = triangle();
        Check.due("no route yet: lost", x.packet(0, 2, 0), 0);
        Check.due("no hop", x.packet(0, 2, 1), 0);
        Check.due("no cost", x.packet(0, 2, 2), 0);
        Check.due("no router", x.packet(0, 2, 10), -1);
        x.ticks(4);
        Check.due("arrives", x.packet(0, 2, 0), 1);
        Check.due("hops", x.packet(0, 2, 1), 2);
        Check.due("cost", x.packet(0, 2, 2), 3);
        Check.due("behind hop 0", x.packet(0, 2, 10), 1);
        Check.due("behind hop 1", x.packet(0, 2, 11), 2);
        Check.due("behind hop 2", x.packet(0, 2, 12), -1);
        Check.due("to itself", x.packet(2, 2, 0), 1);
        Check.due("to itself: hops", x.packet(2, 2, 1), 0);
        Check.due("to itself: cost", x.packet(2, 2, 2), 0);
        Check.due("to itself: behind hop 0", x.packet(2, 2, 10), -1);
        x.cost(0, 0, 50);
        Check.due("what the link costs now", x.packet(0, 2, 2), 52);
        x.set(1, 0);
        Check.due("lost at 1", x.packet(0, 2, 0), 0);
        Check.due("behind one hop", x.packet(0, 2, 1), 1);
        Check.due("that cost", x.packet(0, 2, 2), 50);
        int[][] bad = {
            {8, 0, 0}, {-1, 0, 0}, {0, 8, 0}, {0, -1, 0}, {0, 1, 3}, {0, 1, -1}, {0, 1, 9}, {0, 1, 19}, {0, 0, 9},
        };
        for (int[] b : bad) {
            Check.due("packet" + java.util.Arrays.toString(b), x.packet(b[0], b[1], b[2]), -2);
        }
    }

    /** 1 knows that its link to 2 is down, and goes by 0; 0 doesn't yet, and goes by 1. */
    private static void packetRound() {
        Check.part("promise 14");
        LinkRouter x = triangle();
        x.ticks(4);
        x.set(1, 0);
        x.tick();
        Check.due("round", x.packet(0, 2, 0), 2);
        Check.due("hops", x.packet(0, 2, 1), 9);
        Check.due("cost", x.packet(0, 2, 2), 9);
        Check.due("behind the last", x.packet(0, 2, 18), 1);
        Check.due("behind the one before", x.packet(0, 2, 17), 0);
        x.tick();
        Check.due("0 knows it, too", x.packet(0, 2, 0), 1);
        Check.due("cost", x.packet(0, 2, 2), 9);
        Check.due("from 1", x.packet(1, 2, 2), 10);
    }

    private static void packetOverTheCheapest() {
        Check.part("promise 14");
        LinkRouter x = new LinkRouter();
        x.link(0, 1, 0, 5, 1);
        x.link(1, 0, 0, 9, 3);
        x.link(0, 1, 1, 1, 1);
        x.set(2, 0);
        x.ticks(4);
        Check.due("by link 1", x.packet(0, 1, 2), 3);
        Check.due("back by link 0", x.packet(1, 0, 2), 1);
        x.set(1, 0);
        Check.due("by link 0, though link 1 is told", x.packet(0, 1, 2), 5);
        x.set(0, 0);
        x.set(2, 1);
        Check.due("not by one of another area", x.packet(0, 1, 0), 0);
    }

    private static void truly() {
        Check.part("promise 15");
        LinkRouter x = new LinkRouter();
        x.link(0, 1, 0, 1, 5);
        x.link(2, 1, 1, 7, 2);
        x.link(0, 2, 2, 4, 1);
        Check.due("by whatever area, and told or not", x.truly(0, 2), 3);
        Check.due("back", x.truly(2, 0), 1);
        Check.due("1 to 0", x.truly(1, 0), 3);
        Check.due("to itself", x.truly(4, 4), 0);
        Check.due("none", x.truly(0, 4), 9999);
        x.set(1, 0);
        Check.due("a link is down", x.truly(0, 2), 4);
        x.set(2, 0);
        Check.due("two are", x.truly(0, 2), 9999);
        LinkRouter line = new LinkRouter();
        for (int i = 6; i >= 0; i--) {
            line.link(i, i + 1, i % 3, 99, 98);
        }
        Check.due("the longest", line.truly(0, 7), 693);
        Check.due("the longest, back", line.truly(7, 0), 686);
        int[][] bad = {{8, 0}, {-1, 0}, {0, 8}, {0, -1}};
        for (int[] b : bad) {
            Check.due("truly" + java.util.Arrays.toString(b), x.truly(b[0], b[1]), -2);
        }
    }

    private static void cuts() {
        Check.part("promise 16");
        LinkRouter x = new LinkRouter();
        x.link(0, 1, 0, 1, 1);
        x.link(1, 2, 1, 1, 1);
        x.link(1, 2, 2, 1, 1);
        x.link(2, 3, 0, 1, 1);
        x.link(3, 4, 0, 1, 1);
        Check.due("the two that stand alone", x.cuts(0, 3), 9);
        Check.due("none between 1 and 2", x.cuts(1, 2), 0);
        Check.due("to itself", x.cuts(0, 0), 0);
        Check.due("no way at all", x.cuts(0, 7), 0);
        x.set(1, 0);
        Check.due("the other stands alone now", x.cuts(0, 3), 13);
        x.set(2, 0);
        Check.due("no way more", x.cuts(0, 3), 0);
        int[][] bad = {{8, 0}, {-1, 0}, {0, 8}, {0, -1}};
        for (int[] b : bad) {
            Check.due("cuts" + java.util.Arrays.toString(b), x.cuts(b[0], b[1]), -2);
        }
    }

    private static void settled() {
        Check.part("promise 17");
        LinkRouter x = new LinkRouter();
        Check.due("quiet at once", x.settled(0), 1);
        x.link(0, 1, 0, 1, 1);
        x.link(1, 2, 0, 2, 2);
        Check.due("told, passed on, come, quiet", x.settled(0), 4);
        Check.due("messages", x.settled(1), 6);
        Check.due("in thought alone", x.count(2), 0);
        Check.due("in thought alone", x.count(3), 0);
        x.tick();
        Check.due("one is behind", x.settled(0), 3);
        Check.due("messages still to come", x.settled(1), 2);
        x.ticks(4);
        x.set(1, 0);
        Check.due("0 and 1 know 2's former one, 2 knows 1's", x.settled(2), 3);
        Check.due("now all know 1's and 2's former ones", x.router(0, 3) + x.router(1, 3) + x.router(2, 3), 6);
        x.set(0, 0);
        Check.due("each knows the others' former ones", x.settled(2), 6);
        Check.due("what waits when a link goes down arrives, not taken", waitsBehindABreak(), 2);
        neverQuiet();
        Check.due("what 3", x.settled(3), -2);
        Check.due("what -1", x.settled(-1), -2);
    }

    /** Two routers tell, then both their links are replaced: the tick in which old messages fall away isn't quiet. */
    private static int waitsBehindABreak() {
        LinkRouter x = new LinkRouter();
        x.link(0, 1, 0, 1, 1);
        x.tick();
        x.set(0, 0);
        return x.settled(0);
    }

    /** On a line of eight 0, 7 and 1 tell anew one behind another, so that one of theirs is always on its way. */
    private static void neverQuiet() {
        LinkRouter x = new LinkRouter();
        for (int i = 0; i < 7; i++) {
            x.link(i, i + 1, 0, 1, 1);
        }
        x.ticks(30);
        x.cost(0, 0, 2);
        x.ticks(8);
        x.cost(6, 1, 2);
        x.ticks(7);
        x.cost(0, 1, 2);
        x.ticks(20);
        Check.due("never quiet", x.settled(0), -1);
        Check.due("each of eight four times over seven links", x.settled(1), 224);
        Check.due("none is stale", x.settled(2), 0);
        Check.due("80 ticks in thought", x.ticks(80), 224);
        Check.due("never quiet", x.settled(0), -1);
    }

    private static void broken() {
        Check.part("promise 18");
        LinkRouter x = triangle();
        x.ticks(5);
        Check.due("2 by 0's own link", x.broken(1, 0, 2), 9);
        Check.due("as it is", x.broken(2, 0, 2), 3);
        Check.due("by 2", x.broken(0, 0, 1), 11);
        Check.due("to itself", x.broken(0, 0, 0), 0);
        Check.due("in thought alone", x.told(0, 5), 1);
        Check.due("in thought alone", x.count(2), 5);
        Check.due("as ever", x.route(0, 2, 0), 3);
        x.set(2, 0);
        Check.due("none", x.broken(1, 0, 2), -1);
        Check.due("it is down", x.broken(2, 0, 2), -3);
        Check.due("no such router goes before", x.broken(2, 8, 2), -2);
        int[][] bad = {{3, 0, 1}, {-1, 0, 1}, {0, 8, 1}, {0, -1, 1}, {0, 0, 8}, {0, 0, -1}};
        for (int[] b : bad) {
            Check.due("broken" + java.util.Arrays.toString(b), x.broken(b[0], b[1], b[2]), -2);
        }
        LinkRouter untold = triangle();
        Check.due("40 ticks tell all", untold.broken(1, 0, 2), 9);
    }
}

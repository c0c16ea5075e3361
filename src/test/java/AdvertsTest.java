/** Promises 8 to 11: ticks, adverts, and messages that wait. */
final class AdvertsTest {
    private AdvertsTest() {
    }

    static void run() {
        flood();
        renewed();
        forgotten();
        downOnTheWay();
        comeByTwoLinks();
        olderBehindNewer();
        backToItsOwn();
        sumsByTurns();
        sums();
        ticks();
        advert();
        message();
        onTheWayItIsKept();
    }

    private static LinkRouter line() {
        LinkRouter x = new LinkRouter();
        x.link(0, 1, 0, 1, 2);
        x.link(1, 2, 0, 3, 4);
        return x;
    }

    private static void flood() {
        Check.part("promise 8");
        Check.due("nothing to tell", new LinkRouter().tick(), 0);
        LinkRouter x = line();
        Check.due("each its own", x.tick(), 4);
        Check.due("but itself nobody knows any yet", x.count(5), 3);
        Check.due("1 passes on two", x.tick(), 2);
        Check.due("all arrived at 1", x.count(5), 7);
        Check.due("0 and 2 have nobody to tell", x.tick(), 0);
        Check.due("all know all", x.count(5), 9);
        Check.due("still", x.tick(), 0);
        x.cost(0, 0, 9);
        Check.due("0 tells its new cost", x.tick(), 1);
        Check.due("1 passes it on", x.tick(), 1);
        Check.due("2 has nobody to tell", x.tick(), 0);
        Check.due("ticks", x.count(2), 7);
        Check.due("messages", x.count(3), 8);
        x.link(5, 6, 1, 1, 1);
        Check.due("others hear nothing of another area", x.tick(), 2);
        x.ticks(3);
        Check.due("nobody of area 0", x.advert(0, 5, 1, 0), -3);
    }

    private static void renewed() {
        Check.part("promise 8");
        LinkRouter x = new LinkRouter();
        x.link(0, 1, 0, 1, 1);
        Check.due("both tell", x.tick(), 2);
        Check.due("19 ticks", x.ticks(19), 0);
        Check.due("its age", x.advert(0, 0, 0, 1), 19);
        Check.due("at 20 anew", x.tick(), 2);
        Check.due("its age", x.advert(0, 0, 0, 1), 0);
        Check.due("its number", x.advert(0, 0, 0, 0), 2);
        Check.due("the other's, known to it, is old", x.advert(0, 1, 0, 1), 20);
        x.set(0, 0);
        Check.due("it tells that it has none", x.tick(), 0);
        Check.due("number", x.advert(0, 0, 0, 0), 3);
        Check.due("what came on the way was lost", x.advert(0, 1, 0, 0), 1);
        x.ticks(20);
        Check.due("it tells on, though in no area", x.advert(0, 0, 0, 0), 4);
        Check.due("of no area that it never told", x.advert(0, 0, 1, 0), -3);
    }

    private static void forgotten() {
        Check.part("promise 8");
        LinkRouter x = new LinkRouter();
        x.link(0, 1, 0, 1, 1);
        x.ticks(2);
        x.set(0, 0);
        Check.due("age", x.advert(0, 1, 0, 1), 1);
        x.ticks(58);
        Check.due("age", x.advert(0, 1, 0, 1), 59);
        Check.due("known", x.router(0, 2), 2);
        x.tick();
        Check.due("no more known", x.advert(0, 1, 0, 1), -3);
        Check.due("its own is", x.router(0, 2), 1);
        Check.due("never stale", x.router(0, 3), 0);
        x.set(0, 1);
        x.tick();
        Check.due("what is forgotten makes no edge", x.within(0, 1, 0, 0), 9999);
        x.tick();
        Check.due("taken anew", x.advert(0, 1, 0, 1), 1);
        Check.due("and makes one", x.within(0, 1, 0, 0), 1);
    }

    private static void downOnTheWay() {
        Check.part("promise 8");
        LinkRouter x = new LinkRouter();
        x.link(0, 1, 0, 1, 1);
        x.tick();
        x.set(0, 0);
        Check.due("nobody is told", x.tick(), 0);
        Check.due("nothing came", x.advert(0, 1, 0, 0), -3);
        Check.due("nothing waits", x.count(4), 0);
        x.set(0, 1);
        x.tick();
        x.set(0, 0);
        x.set(0, 1);
        Check.due("it comes, though the link was down", x.tick(), 0);
        Check.due("number", x.advert(0, 1, 0, 0), 3);
    }

    private static void comeByTwoLinks() {
        Check.part("promise 8");
        LinkRouter x = new LinkRouter();
        x.link(0, 1, 0, 1, 1);
        x.link(0, 1, 0, 1, 1);
        x.link(1, 2, 0, 1, 1);
        Check.due("2 by 0, 3 by 1, 1 by 2", x.tick(), 6);
        Check.due("1 sends 0's on to 2 alone, and 2's by both", x.tick(), 3);
        Check.due("0 has had it by both", x.tick(), 0);
        LinkRouter ring = new LinkRouter();
        for (int i = 0; i < 4; i++) {
            ring.link(i, (i + 1) % 4, 0, 1, 1);
        }
        Check.due("ring", ring.tick(), 8);
        Check.due("ring", ring.tick(), 8);
        Check.due("who gets it from both sides sends it to none", ring.tick(), 0);
    }

    /** To 1 and 2 comes 0's newer one, and in the same tick its older one by the link between them. */
    private static void olderBehindNewer() {
        Check.part("promise 8");
        LinkRouter x = new LinkRouter();
        x.link(0, 1, 0, 1, 1);
        x.link(1, 2, 0, 1, 1);
        x.link(0, 2, 0, 1, 1);
        x.ticks(5);
        x.cost(0, 0, 2);
        Check.due("0's second", x.tick(), 2);
        x.cost(0, 0, 3);
        Check.due("0's third, and its second on", x.tick(), 4);
        Check.due("the third on: it has not come by that link", x.tick(), 2);
        Check.due("number", x.advert(2, 0, 0, 0), 3);
        Check.due("none", x.tick(), 0);
    }

    private static void backToItsOwn() {
        Check.part("promise 8");
        LinkRouter x = new LinkRouter();
        x.link(0, 1, 0, 1, 1);
        x.tick();
        x.link(0, 1, 0, 1, 1);
        Check.due("each its own by both, the other's by the new link", x.tick(), 6);
        Check.due("message 0 is of 0's own", x.message(0, 2), 0);
        Check.due("message 2 is 1's", x.message(2, 2), 1);
        Check.due("to 1", x.message(2, 1), 1);
        Check.due("by the new link", x.message(2, 0), 1);
        Check.due("the first number", x.message(2, 4), 1);
        Check.due("none takes its own or what it has had by both", x.tick(), 0);
        Check.due("number", x.advert(0, 0, 0, 0), 2);
        Check.due("number of the other's", x.advert(0, 1, 0, 0), 2);
    }

    /** A router in the backbone and in area 1: what area 1 hears has been told to the backbone before. */
    private static void sumsByTurns() {
        Check.part("promise 8");
        LinkRouter x = new LinkRouter();
        x.link(0, 1, 0, 3, 3);
        x.link(0, 2, 1, 4, 4);
        x.ticks(8);
        Check.due("of 1 to area 1", x.advert(0, 0, 1, 31), 3);
        Check.due("of 2 to the backbone", x.advert(0, 0, 0, 32), 4);
        x.cost(0, 0, 5);
        x.cost(1, 0, 6);
        x.tick();
        Check.due("of 1, by what was told in this tick", x.advert(0, 0, 1, 31), 5);
        Check.due("of 2, by what was told in the last tick", x.advert(0, 0, 0, 32), 4);
        x.tick();
        Check.due("of 2, a tick behind", x.advert(0, 0, 0, 32), 6);
    }

    private static void sums() {
        Check.part("promise 8");
        LinkRouter x = new LinkRouter();
        x.link(0, 1, 0, 1, 1);
        x.link(1, 2, 1, 1, 1);
        x.link(0, 3, 1, 2, 2);
        x.link(0, 4, 2, 3, 3);
        x.link(4, 1, 2, 9, 9);
        x.ticks(12);
        Check.due("0 of itself", x.advert(1, 0, 0, 30), 9999);
        Check.due("0 of 1 to the backbone, by area 2", x.advert(1, 0, 0, 31), 12);
        Check.due("0 of 4 to the backbone", x.advert(1, 0, 0, 34), 3);
        Check.due("0 of 1 to area 1: within the backbone", x.advert(3, 0, 1, 31), 1);
        Check.due("0 of 2 to area 1: across the backbone, by 1", x.advert(3, 0, 1, 32), 2);
        Check.due("0 of 3 to area 2: no other border tells it", x.advert(4, 0, 2, 33), 9999);
        Check.due("1 of 3 to area 2: by 0", x.advert(4, 1, 2, 33), 3);
        Check.due("0 of 5: none", x.advert(1, 0, 0, 35), 9999);
        Check.due("3 is no border", x.advert(0, 3, 1, 31), 9999);
        Check.due("1 of 4 to area 1: across the backbone, by 0", x.advert(2, 1, 1, 34), 4);
        x.link(5, 6, 0, 2, 2);
        x.link(6, 0, 1, 5, 5);
        x.set(0, 0);
        x.ticks(25);
        Check.due("6 is a border, and of 0 it tells the backbone", x.advert(5, 6, 0, 30), 5);
        x.link(5, 7, 2, 1, 1);
        x.ticks(25);
        Check.due("5 of 0 to area 2: across, by 6", x.advert(7, 5, 2, 30), 7);
        Check.due("0 is no border more", x.advert(3, 0, 1, 31), 9999);
        Check.due("its own of the backbone, too", x.advert(0, 0, 0, 33), 9999);
        Check.due("which tells no links", x.advert(0, 0, 0, 2), 0);
    }

    private static void ticks() {
        Check.part("promise 9");
        LinkRouter x = line();
        Check.due("none", x.ticks(0), 0);
        Check.due("ticks", x.count(2), 0);
        Check.due("two", x.ticks(2), 6);
        Check.due("ticks", x.count(2), 2);
        Check.due("80, in which all is told anew four times", x.ticks(80), 24);
        Check.due("ticks", x.count(2), 82);
        Check.due("81", x.ticks(81), -2);
        Check.due("-1", x.ticks(-1), -2);
        Check.due("ticks", x.count(2), 82);
        Check.due("messages", x.count(3), 30);
    }

    private static void advert() {
        Check.part("promise 10");
        LinkRouter x = line();
        Check.due("none yet", x.advert(0, 1, 0, 0), -3);
        x.ticks(4);
        Check.due("number", x.advert(0, 1, 0, 0), 1);
        Check.due("age", x.advert(0, 1, 0, 1), 3);
        Check.due("links", x.advert(0, 1, 0, 2), 3);
        Check.due("cost of link 0 from 1", x.advert(0, 1, 0, 10), 2);
        Check.due("cost of link 1 from 1", x.advert(0, 1, 0, 11), 3);
        Check.due("link 2 is none", x.advert(0, 1, 0, 12), -1);
        Check.due("link 11 is none", x.advert(0, 1, 0, 21), -1);
        Check.due("2 tells nothing of link 0", x.advert(0, 2, 0, 10), -1);
        Check.due("sum of 0", x.advert(0, 1, 0, 30), 9999);
        Check.due("sum of 7", x.advert(0, 1, 0, 37), 9999);
        Check.due("of area 1", x.advert(0, 1, 1, 0), -3);
        Check.due("to itself", x.advert(1, 1, 0, 2), 3);
        x.set(1, 0);
        x.ticks(3);
        Check.due("links", x.advert(0, 1, 0, 2), 1);
        Check.due("link 1 is told no more", x.advert(0, 1, 0, 11), -1);
        int[] bad = {-1, 3, 9, 22, 29, 38, Integer.MIN_VALUE, Integer.MAX_VALUE};
        for (int what : bad) {
            Check.due("what " + what, x.advert(0, 1, 0, what), -2);
            Check.due("what " + what + " of none", x.advert(0, 1, 1, what), -2);
        }
        Check.due("no such router", x.advert(8, 1, 0, 0), -2);
        Check.due("no such router", x.advert(-1, 1, 0, 0), -2);
        Check.due("no such router", x.advert(0, 8, 0, 0), -2);
        Check.due("no such router", x.advert(0, -1, 0, 0), -2);
        Check.due("no such area", x.advert(0, 1, 3, 0), -2);
        Check.due("no such area", x.advert(0, 1, -1, 0), -2);
    }

    private static void message() {
        Check.part("promise 11");
        LinkRouter x = new LinkRouter();
        x.link(0, 1, 1, 1, 1);
        x.link(0, 2, 0, 1, 1);
        x.link(1, 2, 1, 1, 1);
        x.tick();
        // By routers, then areas, then whose, then links: link, to, of, area, number.
        int[][] due = {
            {1, 2, 0, 0, 1}, {0, 1, 0, 1, 1}, {0, 0, 1, 1, 1}, {2, 2, 1, 1, 1}, {1, 0, 2, 0, 1}, {2, 1, 2, 1, 1},
        };
        messages(x, due);
        x.tick();
        // 0 knows of 2 by the backbone and sums up 1; 2 likewise; 1 passes on what 0 and 2 told.
        int[][] dueThen = {
            {1, 2, 0, 0, 2}, {0, 1, 0, 1, 2}, {2, 2, 0, 1, 1}, {0, 0, 2, 1, 1}, {1, 0, 2, 0, 2}, {2, 1, 2, 1, 2},
        };
        messages(x, dueThen);
        Check.due("what 5", x.message(0, 5), -2);
        Check.due("what -1", x.message(0, -1), -2);
        Check.due("what 5 of none", x.message(99, 5), -2);
        Check.due("message -1", x.message(-1, 0), -12);
        x.ticks(9);
        Check.due("none waits", x.message(0, 0), -12);
    }

    private static void messages(LinkRouter x, int[][] due) {
        Check.due("how many wait", x.count(4), due.length);
        for (int i = 0; i < due.length; i++) {
            for (int what = 0; what < 5; what++) {
                Check.due("message(" + i + ", " + what + ")", x.message(i, what), due[i][what]);
            }
        }
        Check.due("behind the last", x.message(due.length, 0), -12);
    }

    /** What was sent stays as it was sent, though its sender hears of a newer one before it arrives. */
    private static void onTheWayItIsKept() {
        Check.part("promise 8");
        LinkRouter x = line();
        x.ticks(4);
        x.cost(0, 0, 5);
        x.tick();
        x.cost(0, 0, 6);
        x.tick();
        Check.due("1 knows the former", x.advert(1, 0, 0, 10), 5);
        x.tick();
        Check.due("2 has the former", x.advert(2, 0, 0, 10), 5);
        Check.due("1 knows the latter", x.advert(1, 0, 0, 10), 6);
        Check.due("its age there", x.advert(2, 0, 0, 1), 2);
        x.tick();
        Check.due("2 has the latter", x.advert(2, 0, 0, 10), 6);
    }
}

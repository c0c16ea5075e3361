/** Promises 1 to 7: a new object, links, and what routers are by them. */
final class LinksTest {
    private LinksTest() {
    }

    static void run() {
        newObject();
        link();
        linkRefuses();
        set();
        cost();
        told();
        router();
        routerKnows();
        taken();
    }

    private static void newObject() {
        Check.part("promise 1");
        LinkRouter x = new LinkRouter();
        for (int what = 0; what < 6; what++) {
            Check.due("count(" + what + ")", x.count(what), 0);
        }
        Check.due("told(0, 0)", x.told(0, 0), -2);
        for (int i = 0; i < 8; i++) {
            Check.due("areas of " + i, x.router(i, 0), 0);
            Check.due("what " + i + " knows", x.router(i, 2), 0);
        }
        for (int i = 0; i < 4; i++) {
            Check.due("cell(" + i + ", 0, 0)", x.cell(i, 0, 0), -11);
        }
        Check.due("back()", x.back(), -3);
        LinkRouter other = new LinkRouter();
        x.link(0, 1, 0, 1, 1);
        Check.due("another object's links", other.count(0), 0);
    }

    private static void link() {
        Check.part("promise 2");
        LinkRouter x = new LinkRouter();
        Check.due("the first", x.link(0, 7, 0, 1, 99), 0);
        Check.due("the second, between the same", x.link(7, 0, 2, 99, 1), 1);
        Check.due("the third", x.link(0, 7, 0, 1, 99), 2);
        Check.due("links", x.count(0), 3);
        Check.due("all are up at first", x.count(1), 3);
        for (int i = 3; i < 12; i++) {
            Check.due("number " + i, x.link(1, 2, 1, 3, 4), i);
        }
        Check.due("a thirteenth", x.link(1, 2, 1, 3, 4), -4);
        Check.due("a thirteenth that is none", x.link(1, 1, 1, 3, 4), -2);
        Check.due("links", x.count(0), 12);
    }

    private static void linkRefuses() {
        Check.part("promise 2");
        LinkRouter x = new LinkRouter();
        int[][] bad = {
            {-1, 1, 0, 1, 1}, {8, 1, 0, 1, 1}, {0, -1, 0, 1, 1}, {0, 8, 0, 1, 1}, {3, 3, 0, 1, 1}, {0, 1, -1, 1, 1},
            {0, 1, 3, 1, 1}, {0, 1, 0, 0, 1}, {0, 1, 0, 100, 1}, {0, 1, 0, 1, 0}, {0, 1, 0, 1, 100},
        };
        for (int[] b : bad) {
            Check.due("link" + java.util.Arrays.toString(b), x.link(b[0], b[1], b[2], b[3], b[4]), -2);
        }
        Check.due("links", x.count(0), 0);
    }

    private static void set() {
        Check.part("promise 3");
        LinkRouter x = new LinkRouter();
        x.link(0, 1, 0, 1, 1);
        x.link(1, 2, 0, 1, 1);
        Check.due("down", x.set(1, 0), 1);
        Check.due("is down", x.told(1, 5), 0);
        Check.due("the other is not", x.told(0, 5), 1);
        Check.due("down again", x.set(1, 0), 0);
        Check.due("up", x.set(1, 1), 0);
        Check.due("up again", x.set(1, 1), 1);
        Check.due("up links", x.count(1), 2);
        Check.due("neither up nor down", x.set(0, 2), -2);
        Check.due("neither up nor down", x.set(0, -1), -2);
        Check.due("no such link", x.set(2, 0), -2);
        Check.due("no such link", x.set(-1, 0), -2);
        Check.due("is up still", x.told(0, 5), 1);
    }

    private static void cost() {
        Check.part("promise 4");
        LinkRouter x = new LinkRouter();
        x.link(0, 1, 0, 5, 6);
        Check.due("from one", x.cost(0, 0, 99), 5);
        Check.due("from two", x.cost(0, 1, 1), 6);
        Check.due("from one again", x.cost(0, 0, 2), 99);
        Check.due("one's", x.told(0, 3), 2);
        Check.due("two's", x.told(0, 4), 1);
        Check.due("no such end", x.cost(0, 2, 3), -2);
        Check.due("no such end", x.cost(0, -1, 3), -2);
        Check.due("no such link", x.cost(1, 0, 3), -2);
        Check.due("no such link", x.cost(-1, 0, 3), -2);
        Check.due("too cheap", x.cost(0, 0, 0), -2);
        Check.due("too dear", x.cost(0, 0, 100), -2);
        Check.due("one's still", x.told(0, 3), 2);
        x.set(0, 0);
        Check.due("of one that is down", x.cost(0, 0, 7), 2);
    }

    private static void told() {
        Check.part("promise 5");
        LinkRouter x = new LinkRouter();
        x.link(6, 3, 2, 11, 12);
        x.link(1, 0, 1, 13, 14);
        int[] due = {6, 3, 2, 11, 12, 1};
        int[] dueThen = {1, 0, 1, 13, 14, 0};
        x.set(1, 0);
        for (int what = 0; what < 6; what++) {
            Check.due("told(0, " + what + ")", x.told(0, what), due[what]);
            Check.due("told(1, " + what + ")", x.told(1, what), dueThen[what]);
        }
        Check.due("told(0, 6)", x.told(0, 6), -2);
        Check.due("told(0, -1)", x.told(0, -1), -2);
        Check.due("told(2, 0)", x.told(2, 0), -2);
        Check.due("told(-1, 0)", x.told(-1, 0), -2);
    }

    private static void router() {
        Check.part("promise 6");
        LinkRouter x = new LinkRouter();
        x.link(0, 1, 1, 1, 1);
        x.link(0, 2, 2, 1, 1);
        Check.due("in two, none the backbone", x.router(0, 0), 6);
        Check.due("so it is no border", x.router(0, 1), 0);
        x.link(3, 0, 0, 1, 1);
        Check.due("in all", x.router(0, 0), 7);
        Check.due("a border", x.router(0, 1), 1);
        Check.due("in the backbone alone", x.router(3, 0), 1);
        Check.due("no border", x.router(3, 1), 0);
        x.set(0, 0);
        Check.due("in two", x.router(0, 0), 5);
        Check.due("a border still", x.router(0, 1), 1);
        x.set(1, 0);
        Check.due("in one", x.router(0, 0), 1);
        Check.due("no border more", x.router(0, 1), 0);
        Check.due("no such router", x.router(8, 0), -2);
        Check.due("no such router", x.router(-1, 0), -2);
        Check.due("no such question", x.router(0, 4), -2);
        Check.due("no such question", x.router(0, -1), -2);
    }

    private static void routerKnows() {
        Check.part("promise 6");
        LinkRouter x = new LinkRouter();
        x.link(0, 1, 0, 1, 1);
        x.link(1, 2, 0, 1, 1);
        x.link(4, 5, 1, 1, 1);
        x.tick();
        Check.due("its own", x.router(0, 2), 1);
        x.ticks(2);
        Check.due("all three's", x.router(0, 2), 3);
        Check.due("of another area", x.router(4, 2), 2);
        Check.due("of no area", x.router(7, 2), 0);
        Check.due("none is stale", x.router(0, 3), 0);
        x.cost(1, 1, 9);
        Check.due("what 2 tells of its cost is stale", x.router(0, 3), 1);
        Check.due("to 2 itself, too", x.router(2, 3), 1);
        x.cost(1, 0, 9);
        Check.due("what 1 tells, too", x.router(0, 3), 2);
        x.cost(0, 0, 9);
        Check.due("and its own", x.router(0, 3), 3);
        x.cost(0, 0, 1);
        x.cost(1, 0, 1);
        x.cost(1, 1, 1);
        Check.due("as it was: none", x.router(0, 3), 0);
        x.set(0, 0);
        Check.due("of a link that is down", x.router(2, 3), 2);
        Check.due("of no link of another area", x.router(4, 3), 0);
        x.tick();
        Check.due("its own is new", x.router(0, 3), 1);
    }

    private static void taken() {
        Check.part("promise 7");
        LinkRouter x = new LinkRouter();
        x.link(0, 1, 0, 1, 1);
        x.link(0, 2, 1, 1, 1);
        x.link(3, 0, 1, 1, 1);
        x.link(2, 3, 1, 1, 1);
        x.link(1, 4, 0, 1, 1);
        Check.due("in an area", x.taken(0, 0), 3);
        Check.due("a border", x.taken(0, 1), 3);
        Check.due("not in the backbone alone", x.taken(0, 2), -13);
        Check.due("in an area", x.taken(2, 0), 2);
        Check.due("no border", x.taken(2, 1), -13);
        Check.due("not in the backbone", x.taken(2, 2), -13);
        Check.due("no border", x.taken(1, 1), -13);
        Check.due("in the backbone alone", x.taken(1, 2), 2);
        Check.due("in none", x.taken(7, 0), -13);
        Check.due("in none", x.taken(7, 2), -13);
        x.set(2, 0);
        Check.due("one is down", x.taken(0, 1), 2);
        x.set(1, 0);
        Check.due("no border more", x.taken(0, 1), -13);
        Check.due("in the backbone alone", x.taken(0, 2), 1);
        Check.due("no such router", x.taken(8, 0), -2);
        Check.due("no such router", x.taken(-1, 0), -2);
        Check.due("no such kind", x.taken(0, 3), -2);
        Check.due("no such kind", x.taken(0, -1), -2);
        Check.due("no such kind of one in none", x.taken(7, 3), -2);
    }
}

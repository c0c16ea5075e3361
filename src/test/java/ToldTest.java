/** Promises 21 to 25: what was told, read back; films; an image laid back; counts. */
final class ToldTest {
    private ToldTest() {
    }

    static void run() {
        first();
        routers();
        links();
        costs();
        tellsRefuses();
        film();
        image();
        imageOnTheWay();
        imageOfSums();
        back();
        count();
    }

    private static LinkRouter triangle() {
        LinkRouter x = new LinkRouter();
        x.link(0, 1, 0, 1, 1);
        x.link(1, 2, 0, 2, 2);
        x.link(0, 2, 0, 9, 9);
        x.ticks(5);
        return x;
    }

    private static void row(LinkRouter x, int sheet, int sort, int... row) {
        x.sheet(sheet, sort, row.length);
        for (int i = 0; i < row.length; i++) {
            x.cell(sheet, i, row[i]);
        }
    }

    private static void first() {
        Check.part("promise 21");
        LinkRouter x = triangle();
        row(x, 0, 1, 0, 1, 3, -1, -1, -1, -1, -1);
        Check.due("just so", x.tells(0, 0, 0), -1);
        Check.due("otherwise at once", x.tells(0, 1, 0), 0);
        x.cell(0, 7, 9999);
        Check.due("the last", x.tells(0, 0, 0), 7);
        x.cell(0, 2, 4);
        Check.due("the first of two", x.tells(0, 0, 0), 2);
        row(x, 1, 0, 0, 1, 3, -1);
        Check.due("of shorts, and fewer", x.tells(1, 0, 0), -1);
        x.cell(1, 2, 65536 + 3);
        Check.due("of shorts their lowest bits", x.tells(1, 0, 0), -1);
        x.sheet(2, 1, 0);
        Check.due("of none", x.tells(2, 5, 0), -1);
    }

    private static void routers() {
        Check.part("promise 21");
        LinkRouter x = triangle();
        row(x, 0, 1, 1, 0);
        Check.due("1", x.tells(0, 7, 1), 2);
        row(x, 0, 1, -1, -1, -1);
        Check.due("who has no way to 0, 1, 2", x.tells(0, 0, 1), 0xF8);
        row(x, 0, 1, 5);
        Check.due("none", x.tells(0, 0, 1), 0);
        x.sheet(0, 1, 0);
        Check.due("all", x.tells(0, 0, 1), 255);
    }

    private static void links() {
        Check.part("promise 21");
        LinkRouter x = triangle();
        row(x, 0, 1, 0, 1, 9);
        Check.due("by link 1", x.tells(0, 0, 2), 2);
        row(x, 0, 1, 0, 11, 9);
        Check.due("by link 0", x.tells(0, 0, 2), 1);
        row(x, 0, 1, 0, 1, 3);
        Check.due("by link 2, as it is", x.tells(0, 0, 2), 4);
        row(x, 0, 1, 0);
        Check.due("by each", x.tells(0, 0, 2), 7);
        x.set(2, 0);
        Check.due("by each that is up", x.tells(0, 0, 2), 3);
        row(x, 0, 1, 5);
        Check.due("by none", x.tells(0, 0, 2), 0);
        Check.due("in thought alone", x.count(1), 2);
    }

    private static void costs() {
        Check.part("promise 21");
        LinkRouter x = triangle();
        row(x, 0, 1, 0, 1, 3);
        Check.due("3 to 12 of link 2", x.tells(0, 0, 12), 10);
        Check.due("the least", x.tells(0, 0, 13), 3);
        Check.due("1 of link 0", x.tells(0, 0, 4), 1);
        Check.due("the least", x.tells(0, 0, 5), 1);
        Check.due("2 of link 1", x.tells(0, 0, 8), 1);
        Check.due("the least", x.tells(0, 0, 9), 2);
        row(x, 0, 1, 0, 11, 9);
        Check.due("11 and 12 of link 0", x.tells(0, 0, 4), 2);
        Check.due("the least", x.tells(0, 0, 5), 11);
        row(x, 0, 1, 0, 13, 9);
        Check.due("13 is none of them", x.tells(0, 0, 4), 0);
        Check.due("none", x.tells(0, 0, 5), -1);
        row(x, 0, 1, 11, 9);
        Check.due("from end one alone", x.tells(0, 2, 4), 0);
        row(x, 0, 1, 0, 11, 9);
        x.set(1, 0);
        x.set(2, 0);
        row(x, 0, 1, 0, 12, -1);
        Check.due("12 alone", x.tells(0, 0, 4), 1);
        Check.due("the least", x.tells(0, 0, 5), 12);
        x.set(1, 1);
        row(x, 0, 1, 0, 1, 3);
        Check.due("of one that is down", x.tells(0, 0, 12), 12);
        Check.due("in thought alone", x.told(2, 3), 9);
    }

    private static void tellsRefuses() {
        Check.part("promise 21");
        LinkRouter x = triangle();
        x.sheet(0, 1, 9);
        x.sheet(1, 1, 8);
        int[] none = {-1, 3, 6, 7, 10, 11, 50, Integer.MIN_VALUE, Integer.MAX_VALUE};
        for (int what : none) {
            Check.due("what " + what, x.tells(1, 0, what), -2);
            Check.due("what " + what + " of a missing one", x.tells(2, 0, what), -2);
        }
        Check.due("no such sheet", x.tells(4, 0, 0), -2);
        Check.due("no such sheet", x.tells(-1, 0, 0), -2);
        Check.due("no such router", x.tells(1, 8, 0), -2);
        Check.due("no such router", x.tells(1, -1, 0), -2);
        Check.due("no such link", x.tells(1, 0, 16), -12);
        Check.due("no such link", x.tells(1, 0, 17), -12);
        Check.due("no such link ever", x.tells(1, 0, 52), -12);
        Check.due("no such link ever", x.tells(1, 0, Integer.MAX_VALUE - 2), -12);
        Check.due("no such link goes before a missing sheet", x.tells(2, 0, 16), -12);
        Check.due("missing", x.tells(2, 0, 12), -11);
        Check.due("missing", x.tells(2, 0, 0), -11);
        Check.due("more than 8", x.tells(0, 0, 0), -2);
        Check.due("no such link goes before more than 8", x.tells(0, 0, 16), -12);
        Check.due("8", x.tells(1, 0, 0), 1);
        LinkRouter y = new LinkRouter();
        y.sheet(0, 1, 1);
        Check.due("no link at all", y.tells(0, 0, 4), -12);
    }

    private static void film() {
        Check.part("promise 22");
        LinkRouter x = triangle();
        Check.due("film", x.film(0, 2), 8);
        Check.due("as is told", x.tells(0, 2, 0), -1);
        row(x, 1, 1, 3, 2, 0, -1, -1, -1, -1, -1);
        Check.due("by this, too", x.tells(1, 2, 0), -1);
        Check.due("eight", x.cell(0, 7, -1), 1);
        Check.due("eight", x.cell(0, 8, 0), -12);
        x.sheet(3, 0, 40);
        x.film(3, 2);
        Check.due("ints, whatever it was", x.copy(3, 0, 1, 0, 8), 8);
        Check.due("of ints all bits", x.cell(3, 0, 65536 + 3), 1);
        Check.due("of ints all bits", x.tells(3, 2, 0), 0);
        Check.due("it stays", x.tells(1, 2, 0), -1);
        x.set(1, 0);
        x.ticks(5);
        Check.due("it is of then", x.tells(0, 2, 0), 0);
        Check.due("no such sheet", x.film(4, 0), -2);
        Check.due("no such sheet", x.film(-1, 0), -2);
        Check.due("no such router", x.film(2, 8), -2);
        Check.due("no such router", x.film(2, -1), -2);
        Check.due("and is missing still", x.cell(2, 0, 0), -11);
    }

    private static void image() {
        Check.part("promise 23");
        LinkRouter x = new LinkRouter();
        Check.due("of nothing", x.image(), 0);
        x.link(0, 1, 0, 1, 1);
        Check.due("of one link", x.image(), 1);
        x.link(0, 2, 0, 1, 1);
        Check.due("the last one counts", x.back(), 1);
        x.sheet(0, 1, 3);
        x.image();
        x.sheet(0, -1, 0);
        x.sheet(1, 0, 2);
        x.back();
        Check.due("it keeps no sheets", x.cell(0, 0, 1), -11);
        Check.due("it takes none away", x.cell(1, 0, 1), 1);
    }

    private static void imageOnTheWay() {
        Check.part("promise 23");
        LinkRouter x = triangle();
        x.cost(0, 0, 4);
        x.tick();
        x.image();
        Check.due("on the way", x.count(4), 2);
        x.ticks(30);
        x.set(0, 0);
        x.cost(1, 0, 77);
        x.link(4, 5, 1, 1, 1);
        x.ticks(30);
        Check.due("laid back", x.back(), 3);
        Check.due("ticks", x.count(2), 6);
        Check.due("messages", x.count(3), 14);
        Check.due("on the way", x.count(4), 2);
        Check.due("to 1", x.message(0, 1), 1);
        Check.due("by link 0", x.message(0, 0), 0);
        Check.due("to 2", x.message(1, 1), 2);
        Check.due("by link 2", x.message(1, 0), 2);
        Check.due("up", x.count(1), 3);
        Check.due("cost", x.told(1, 3), 2);
        Check.due("known", x.count(5), 9);
        Check.due("its age", x.advert(1, 0, 0, 1), 5);
        Check.due("its cost", x.advert(1, 0, 0, 10), 1);
        Check.due("it goes on", x.tick(), 2);
        Check.due("its cost", x.advert(1, 0, 0, 10), 4);
        Check.due("4 knows nothing", x.router(4, 2), 0);
    }

    private static void imageOfSums() {
        Check.part("promise 23");
        LinkRouter x = new LinkRouter();
        x.link(0, 1, 0, 2, 2);
        x.link(1, 2, 1, 3, 3);
        x.ticks(6);
        x.image();
        x.cost(1, 0, 8);
        x.ticks(6);
        Check.due("a sum", x.advert(0, 1, 0, 32), 8);
        Check.due("a route by it", x.route(0, 2, 0), 10);
        x.back();
        Check.due("the sum as it was", x.advert(0, 1, 0, 32), 3);
        Check.due("the route as it was", x.route(0, 2, 0), 5);
        Check.due("quiet as it was", x.settled(0), 1);
    }

    private static void back() {
        Check.part("promise 24");
        LinkRouter x = new LinkRouter();
        Check.due("none", x.back(), -3);
        x.link(0, 1, 0, 1, 1);
        x.image();
        x.set(0, 0);
        Check.due("laid back", x.back(), 1);
        Check.due("up", x.told(0, 5), 1);
        x.set(0, 0);
        x.ticks(9);
        Check.due("laid back again", x.back(), 1);
        Check.due("up", x.told(0, 5), 1);
        Check.due("ticks", x.count(2), 0);
        x.settled(0);
        x.broken(0, 0, 1);
        Check.due("what is thought leaves it", x.back(), 1);
        Check.due("ticks", x.count(2), 0);
    }

    private static void count() {
        Check.part("promise 25");
        LinkRouter x = triangle();
        x.set(1, 0);
        x.tick();
        int[] due = {3, 2, 6, 14, 2, 9};
        for (int what = 0; what < 6; what++) {
            Check.due("count(" + what + ")", x.count(what), due[what]);
        }
        Check.due("count(6)", x.count(6), -2);
        Check.due("count(-1)", x.count(-1), -2);
    }
}

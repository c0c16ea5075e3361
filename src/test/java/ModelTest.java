import java.util.Random;

/** Drawn runs of calls, each answer held against the model's. */
final class ModelTest {
    private static final int RUNS = 400, CALLS = 300;

    private final Random random;
    private final LinkRouter router = new LinkRouter();
    private final Model model = new Model();
    private final int areas;
    private final int routers;

    private ModelTest(int seed) {
        random = new Random(seed);
        areas = 1 + random.nextInt(3);
        routers = 3 + random.nextInt(6);
    }

    static void run() {
        for (int seed = 0; seed < RUNS; seed++) {
            Check.part("model, run " + seed);
            new ModelTest(seed).runOne();
        }
    }

    private void runOne() {
        int links = 1 + random.nextInt(12);
        for (int i = 0; i < links; i++) {
            link();
        }
        for (int i = 0; i < CALLS; i++) {
            if (random.nextInt(100) < 30) {
                change();
            } else if (random.nextInt(100) < 4) {
                think();
            } else {
                ask();
            }
        }
    }

    private int drawn(int least, int most) {
        return least + random.nextInt(most - least + 1);
    }

    /** Mostly a number that fits, now and then one beside. */
    private int near(int least, int most) {
        return random.nextInt(20) == 0 ? drawn(least - 1, most + 1) : drawn(least, most);
    }

    private void due(String name, int got, int want, int... args) {
        Check.due(name + java.util.Arrays.toString(args), got, want);
    }

    private void link() {
        int a = near(0, routers - 1);
        int b = near(0, routers - 1);
        int area = near(0, areas - 1);
        int top = random.nextBoolean() ? 4 : 99;
        int c = near(1, top);
        int d = random.nextBoolean() ? c : near(1, top);
        due("link", router.link(a, b, area, c, d), model.link(a, b, area, c, d), a, b, area, c, d);
    }

    private void change() {
        int a = near(0, 11);
        int b;
        int c;
        switch (random.nextInt(12)) {
            case 0, 1, 2, 3 -> due("tick", router.tick(), model.tick());
            case 4, 5 -> {
                b = random.nextInt(6) == 0 ? near(0, 80) : near(0, 8);
                due("ticks", router.ticks(b), model.ticks(b), b);
            }
            case 6, 7 -> {
                b = near(0, 1);
                due("set", router.set(a, b), model.set(a, b), a, b);
            }
            case 8, 9 -> {
                b = near(0, 1);
                c = near(1, 12);
                due("cost", router.cost(a, b, c), model.cost(a, b, c), a, b, c);
            }
            case 10 -> link();
            default -> {
                if (random.nextInt(3) == 0) {
                    due("image", router.image(), model.image());
                } else if (random.nextInt(3) == 0) {
                    due("back", router.back(), model.back());
                }
            }
        }
    }

    private void think() {
        int x = near(0, routers - 1);
        int y = near(0, routers - 1);
        int link = near(0, 11);
        int what = near(0, 2);
        int seed = random.nextInt();
        switch (random.nextInt(6)) {
            case 0 -> due("settled", router.settled(what), model.settled(what), what);
            case 1, 2 -> due("broken", router.broken(link, x, y), model.broken(link, x, y), link, x, y);
            case 3 -> due("drawn", router.drawn(x, seed), model.drawn(x, seed), x, seed);
            case 4 -> {
                int m = near(1, 6);
                int part = near(0, 1);
                due("chance", router.chance(x, seed, m, part), model.chance(x, seed, m, part), x, seed, m, part);
            }
            default -> tells(x, random.nextInt(4) == 0 ? 2 : near(4, 52));
        }
    }

    private void tells(int x, int what) {
        int sheet = near(0, 3);
        if (random.nextInt(3) > 0) {
            int of = random.nextInt(4) == 0 ? near(0, routers - 1) : x;
            due("film", router.film(sheet, of), model.film(sheet, of), sheet, of);
            int size = near(0, 8);
            int other = near(0, 3);
            due("sheet", router.sheet(other, 1, size), model.sheet(other, 1, size), other, 1, size);
            due("copy", router.copy(sheet, 0, other, 0, size), model.copy(sheet, 0, other, 0, size),
                sheet, 0, other, 0, size);
            sheet = other;
        }
        due("tells", router.tells(sheet, x, what), model.tells(sheet, x, what), sheet, x, what);
    }

    private void ask() {
        int x = near(0, routers - 1);
        int y = near(0, routers - 1);
        int what;
        switch (random.nextInt(16)) {
            case 0 -> {
                what = near(0, 5);
                int link = near(0, 11);
                due("told", router.told(link, what), model.told(link, what), link, what);
            }
            case 1 -> {
                what = near(0, 3);
                due("router", router.router(x, what), model.router(x, what), x, what);
            }
            case 2 -> {
                what = near(0, 2);
                due("taken", router.taken(x, what), model.taken(x, what), x, what);
            }
            case 3, 4, 5 -> advert(x, y);
            case 6 -> {
                int i = near(0, Math.max(0, model.count(4) - 1));
                what = near(0, 4);
                due("message", router.message(i, what), model.message(i, what), i, what);
            }
            case 7 -> {
                int area = near(0, 2);
                what = near(0, 1);
                due("within", router.within(x, y, area, what), model.within(x, y, area, what), x, y, area, what);
            }
            case 8, 9 -> {
                what = near(0, 3);
                due("route", router.route(x, y, what), model.route(x, y, what), x, y, what);
            }
            case 10, 11 -> {
                what = random.nextBoolean() ? near(0, 2) : near(10, 18);
                due("packet", router.packet(x, y, what), model.packet(x, y, what), x, y, what);
            }
            case 12 -> due("truly", router.truly(x, y), model.truly(x, y), x, y);
            case 13 -> due("cuts", router.cuts(x, y), model.cuts(x, y), x, y);
            case 14 -> {
                what = near(0, 5);
                due("count", router.count(what), model.count(what), what);
            }
            default -> host(x);
        }
    }

    private void advert(int x, int y) {
        int area = near(0, areas - 1);
        int what = switch (random.nextInt(3)) {
            case 0 -> near(0, 2);
            case 1 -> near(10, 21);
            default -> near(30, 37);
        };
        due("advert", router.advert(x, y, area, what), model.advert(x, y, area, what), x, y, area, what);
    }

    private void host(int x) {
        int a = near(0, 3);
        int b = near(0, 3);
        int i = near(0, 9);
        int j = near(0, 9);
        switch (random.nextInt(5)) {
            case 0 -> {
                int sort = near(-1, 1);
                int n = random.nextInt(4) == 0 ? near(0, 40) : near(0, 9);
                due("sheet", router.sheet(a, sort, n), model.sheet(a, sort, n), a, sort, n);
            }
            case 1 -> {
                int v = random.nextBoolean() ? near(-1, 20) : random.nextInt();
                due("cell", router.cell(a, i, v), model.cell(a, i, v), a, i, v);
            }
            case 2 -> {
                int n = near(0, 9);
                due("copy", router.copy(a, i, b, j, n), model.copy(a, i, b, j, n), a, i, b, j, n);
            }
            case 3 -> due("film", router.film(a, x), model.film(a, x), a, x);
            default -> {
                int what = near(0, 1);
                due("tells", router.tells(a, x, what), model.tells(a, x, what), a, x, what);
            }
        }
    }
}

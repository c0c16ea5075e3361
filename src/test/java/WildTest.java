import java.util.Random;

/** Whatever the numbers are, a call answers; and one that refuses changes nothing. */
final class WildTest {
    private static final int RUNS = 300, CALLS = 500;
    private static final int[] WILD = {
        Integer.MIN_VALUE, Integer.MIN_VALUE + 1, -100, -2, -1, 0, 1, 2, 3, 4, 5, 7, 8, 9, 11, 12, 13, 18, 19, 40, 41, 48,
        51, 52, 53, 80, 81, 99, 100, 1 << 16, 1 << 30, Integer.MAX_VALUE - 1, Integer.MAX_VALUE,
    };

    private final Random random;
    private final LinkRouter x = new LinkRouter();

    private WildTest(int seed) {
        random = new Random(seed);
    }

    static void run() {
        Check.part("wild numbers");
        for (int seed = 0; seed < RUNS; seed++) {
            boolean fits = true;
            WildTest one = new WildTest(seed);
            for (int i = 0; i < CALLS && fits; i++) {
                fits = one.call(random(one));
            }
            Check.holds("run " + seed + " goes on, and refusals change nothing", fits);
        }
    }

    private static int random(WildTest one) {
        return one.random.nextInt(27);
    }

    private int v() {
        return random.nextInt(3) == 0 ? WILD[random.nextInt(WILD.length)] : random.nextInt(9);
    }

    private boolean call(int which) {
        String before = state();
        int answer = answer(which);
        boolean isRefusal = answer <= -2;
        return !isRefusal || before.equals(state());
    }

    private int answer(int which) {
        return switch (which) {
            case 0 -> x.link(v(), v(), v(), v(), v());
            case 1 -> x.set(v(), v());
            case 2 -> x.cost(v(), v(), v());
            case 3 -> x.told(v(), v());
            case 4 -> x.router(v(), v());
            case 5 -> x.taken(v(), v());
            case 6 -> x.tick();
            case 7 -> x.ticks(v());
            case 8 -> x.advert(v(), v(), v(), v());
            case 9 -> x.message(v(), v());
            case 10 -> x.within(v(), v(), v(), v());
            case 11 -> x.route(v(), v(), v());
            case 12 -> x.packet(v(), v(), v());
            case 13 -> x.truly(v(), v());
            case 14 -> x.cuts(v(), v());
            case 15 -> x.settled(v());
            case 16 -> x.broken(v(), v(), v());
            case 17 -> x.drawn(v(), v());
            case 18 -> x.chance(v(), v(), v(), v());
            case 19 -> x.tells(v(), v(), v());
            case 20 -> x.film(v(), v());
            case 21 -> x.image();
            case 22 -> x.back();
            case 23 -> x.count(v());
            case 24 -> x.sheet(v(), v(), v());
            case 25 -> x.cell(v(), v(), v());
            default -> x.copy(v(), v(), v(), v(), v());
        };
    }

    /** What can be asked of links, counts, adverts, messages and sheets without changing them. */
    private String state() {
        StringBuilder all = new StringBuilder();
        for (int what = 0; what < 6; what++) {
            all.append(x.count(what)).append(' ');
            for (int link = 0; link < 12; link++) {
                all.append(x.told(link, what)).append(' ');
            }
        }
        for (int i = 0; i < 8; i++) {
            all.append(x.router(i, 2)).append(' ').append(x.router(i, 3)).append(' ');
            for (int j = 0; j < 8; j++) {
                all.append(x.advert(i, j, 0, 0)).append(' ').append(x.advert(i, j, 1, 1)).append(' ');
            }
            all.append(x.message(i, 2)).append(' ').append(x.tells(i % 4, i, 0)).append(' ');
        }
        return all.toString();
    }
}

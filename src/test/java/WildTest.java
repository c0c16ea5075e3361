import java.util.Random;

/**
 * Whatever the numbers are, a call answers; and of two objects, of which one is asked all and the
 * other only what the first didn't refuse, both answer alike: so refusals change nothing.
 */
final class WildTest {
    private static final int RUNS = 400, CALLS = 500;
    private static final int[] WILD = {
        Integer.MIN_VALUE, Integer.MIN_VALUE + 1, -100, -2, -1, 0, 1, 2, 3, 4, 5, 7, 8, 9, 11, 12, 13, 18, 19, 40, 41, 48,
        51, 52, 53, 80, 81, 99, 100, 1 << 16, 1 << 30, Integer.MAX_VALUE - 1, Integer.MAX_VALUE,
    };
    private static final String[] NAMES = {
        "link", "set", "cost", "told", "router", "taken", "tick", "ticks", "advert", "message", "within", "route", "packet",
        "truly", "cuts", "settled", "broken", "drawn", "chance", "tells", "film", "image", "back", "count", "sheet", "cell",
        "copy",
    };
    private static final int[] NUMBERS = {5, 2, 3, 2, 2, 2, 0, 1, 4, 2, 4, 3, 3, 2, 2, 1, 3, 2, 4, 3, 2, 0, 0, 1, 3, 3, 5};

    private final Random random;
    private final Run all = new Run();
    private final Run taken = new Run();

    private WildTest(int seed) {
        random = new Random(seed);
    }

    static void run() {
        Check.part("wild numbers");
        for (int seed = 0; seed < RUNS; seed++) {
            WildTest one = new WildTest(seed);
            boolean areAlike = true;
            for (int i = 0; i < CALLS && areAlike; i++) {
                areAlike = one.call();
            }
            Check.holds("run " + seed + " goes on, and refusals change nothing", areAlike);
        }
    }

    private int number() {
        return random.nextInt(3) == 0 ? WILD[random.nextInt(WILD.length)] : random.nextInt(9);
    }

    private boolean call() {
        int which = random.nextInt(NAMES.length);
        int[] args = new int[NUMBERS[which]];
        for (int i = 0; i < args.length; i++) {
            args[i] = number();
        }
        int answer = all.ask(NAMES[which], args);
        boolean isRefused = answer <= -2;
        return isRefused || taken.ask(NAMES[which], args) == answer;
    }
}

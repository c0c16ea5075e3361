import java.util.ArrayList;
import java.util.HashMap;
import java.util.List;
import java.util.Map;
import java.util.Objects;
import java.util.TreeMap;
import java.util.TreeSet;

/**
 * The document once more, told as slowly and plainly as can be, to hold LinkRouter against. It
 * shares no code and no way of counting with it: least sums of all pairs instead of a search from
 * one router, maps instead of rows, messages that hold what they tell.
 */
final class Model {
    private static final int NONE = -1, BAD = -2, STATE = -3, FULL = -4;
    private static final int FAR = 9999;

    private static final class Wire {
        final int[] end = new int[2];
        final int[] cost = new int[2];
        int area;
        boolean up = true;

        boolean ends(int router) {
            return end[0] == router || end[1] == router;
        }

        int costOf(int router) {
            return cost[end[0] == router ? 0 : 1];
        }

        int other(int router) {
            return end[0] == router ? end[1] : end[0];
        }

        Wire copied() {
            Wire made = new Wire();
            System.arraycopy(end, 0, made.end, 0, 2);
            System.arraycopy(cost, 0, made.cost, 0, 2);
            made.area = area;
            made.up = up;
            return made;
        }
    }

    /** Ordered as adverts are sent: by areas, then by whose they are. */
    private record Key(int area, int of) implements Comparable<Key> {
        @Override
        public int compareTo(Key other) {
            return area != other.area ? Integer.compare(area, other.area) : Integer.compare(of, other.of);
        }
    }

    private record Said(int number, Map<Integer, Integer> costs, List<Integer> sums) {
        boolean same(Said other) {
            return costs.equals(other.costs) && sums.equals(other.sums);
        }
    }

    private static final class Held {
        Said said;
        int age;
        boolean fresh;
        TreeSet<Integer> by = new TreeSet<>();
    }

    private record Message(int wire, int to, Key key, Said said, int age) {
    }

    record Route(int cost, int hop, int area, int by) {
        static final Route NO = new Route(NONE, NONE, NONE, NONE);
    }

    private List<Wire> wires = new ArrayList<>();
    private List<TreeMap<Key, Held>> known = new ArrayList<>();
    private List<Message> waiting = new ArrayList<>();
    private int ticks = 0;
    private int messages = 0;
    private Model image = null;
    private final Map<Integer, int[]> sheets = new HashMap<>();
    private final Map<Integer, Integer> sorts = new HashMap<>();

    Model() {
        for (int i = 0; i < 8; i++) {
            known.add(new TreeMap<>());
        }
    }

    private Model copied() {
        Model made = new Model();
        made.takeOver(this);
        return made;
    }

    private void takeOver(Model from) {
        wires = new ArrayList<>();
        for (Wire wire : from.wires) {
            wires.add(wire.copied());
        }
        known = new ArrayList<>();
        for (TreeMap<Key, Held> one : from.known) {
            TreeMap<Key, Held> made = new TreeMap<>();
            one.forEach((key, held) -> {
                Held again = new Held();
                again.said = held.said;
                again.age = held.age;
                made.put(key, again);
            });
            known.add(made);
        }
        waiting = new ArrayList<>(from.waiting);
        ticks = from.ticks;
        messages = from.messages;
    }

    // what is

    private TreeSet<Integer> areas(int x) {
        TreeSet<Integer> found = new TreeSet<>();
        for (Wire wire : wires) {
            if (wire.up && wire.ends(x)) {
                found.add(wire.area);
            }
        }
        return found;
    }

    private boolean border(int x) {
        return areas(x).contains(0) && areas(x).size() > 1;
    }

    // ways

    private int[][] edges(int x, int area) {
        int[][] edge = new int[8][8];
        for (int a = 0; a < 8; a++) {
            for (int b = 0; b < 8; b++) {
                edge[a][b] = FAR;
                Held mine = known.get(x).get(new Key(area, a));
                Held theirs = known.get(x).get(new Key(area, b));
                if (a != b && mine != null && theirs != null) {
                    for (int link : mine.said.costs.keySet()) {
                        if (theirs.said.costs.containsKey(link)) {
                            edge[a][b] = Math.min(edge[a][b], mine.said.costs.get(link));
                        }
                    }
                }
            }
        }
        return edge;
    }

    private static int[][] allPairs(int[][] edge) {
        int[][] least = new int[8][8];
        for (int a = 0; a < 8; a++) {
            for (int b = 0; b < 8; b++) {
                least[a][b] = a == b ? 0 : edge[a][b];
            }
        }
        for (int k = 0; k < 8; k++) {
            for (int a = 0; a < 8; a++) {
                for (int b = 0; b < 8; b++) {
                    least[a][b] = Math.min(least[a][b], least[a][k] + least[k][b]);
                }
            }
        }
        return least;
    }

    private int distance(int x, int to, int area) {
        return Math.min(FAR, allPairs(edges(x, area))[x][to]);
    }

    private int firstHop(int x, int to, int area) {
        int[][] edge = edges(x, area);
        int[][] least = allPairs(edge);
        if (x == to || least[x][to] >= FAR) {
            return NONE;
        }
        for (int next = 0; next < 8; next++) {
            if (edge[x][next] < FAR && edge[x][next] + least[next][to] == least[x][to]) {
                return next;
            }
        }
        return NONE;
    }

    private Route across(int x, int to, Iterable<Integer> by) {
        Route best = Route.NO;
        for (int area : by) {
            int[][] least = allPairs(edges(x, area));
            for (int b = 0; b < 8; b++) {
                Held held = known.get(x).get(new Key(area, b));
                if (b == x || held == null || held.said.sums.get(to) >= FAR || least[x][b] >= FAR) {
                    continue;
                }
                int sum = least[x][b] + held.said.sums.get(to);
                if (sum < FAR && (best.cost == NONE || sum < best.cost)) {
                    best = new Route(sum, firstHop(x, b, area), area, b);
                }
            }
        }
        return best;
    }

    Route way(int x, int to) {
        if (x == to) {
            return new Route(0, NONE, NONE, NONE);
        }
        Route best = Route.NO;
        for (int area : areas(x)) {
            int sum = distance(x, to, area);
            if (sum < FAR && (best.cost == NONE || sum < best.cost)) {
                best = new Route(sum, firstHop(x, to, area), area, NONE);
            }
        }
        if (best.cost != NONE) {
            return best;
        }
        return across(x, to, border(x) ? List.of(0) : areas(x));
    }

    private Said telling(int x, int area, int number) {
        Map<Integer, Integer> costs = new TreeMap<>();
        for (int link = 0; link < wires.size(); link++) {
            Wire wire = wires.get(link);
            if (wire.up && wire.area == area && wire.ends(x)) {
                costs.put(link, wire.costOf(x));
            }
        }
        List<Integer> sums = new ArrayList<>();
        for (int to = 0; to < 8; to++) {
            sums.add(sum(x, area, to));
        }
        return new Said(number, costs, sums);
    }

    private int sum(int x, int area, int to) {
        if (!border(x) || to == x) {
            return FAR;
        }
        if (area == 0) {
            int least = FAR;
            for (int other : areas(x)) {
                least = other == 0 ? least : Math.min(least, distance(x, to, other));
            }
            return least;
        }
        int inside = distance(x, to, 0);
        if (inside < FAR) {
            return inside;
        }
        int cost = across(x, to, List.of(0)).cost;
        return cost == NONE ? FAR : cost;
    }

    // ticks

    int tick() {
        for (Message message : waiting) {
            arrive(message);
        }
        for (int x = 0; x < 8; x++) {
            int self = x;
            known.get(x).values().forEach(held -> held.age++);
            known.get(x).entrySet().removeIf(one -> one.getValue().age >= 60 && one.getKey().of != self);
        }
        for (int x = 0; x < 8; x++) {
            for (int area = 0; area < 3; area++) {
                tellAnew(x, area);
            }
        }
        waiting = new ArrayList<>();
        for (int x = 0; x < 8; x++) {
            for (Map.Entry<Key, Held> one : known.get(x).entrySet()) {
                Held held = one.getValue();
                for (int link = 0; held.fresh && link < wires.size(); link++) {
                    Wire wire = wires.get(link);
                    if (wire.area == one.getKey().area && wire.up && wire.ends(x) && !held.by.contains(link)) {
                        waiting.add(new Message(link, wire.other(x), one.getKey(), held.said, held.age));
                    }
                }
                held.fresh = false;
            }
        }
        ticks++;
        messages += waiting.size();
        return waiting.size();
    }

    private void arrive(Message message) {
        if (!wires.get(message.wire).up || message.to == message.key.of) {
            return;
        }
        Held held = known.get(message.to).get(message.key);
        if (held == null || held.said.number < message.said.number) {
            Held made = new Held();
            made.said = message.said;
            made.age = message.age;
            made.fresh = true;
            made.by.add(message.wire);
            known.get(message.to).put(message.key, made);
        } else if (held.said.number == message.said.number && held.fresh) {
            held.by.add(message.wire);
        }
    }

    private void tellAnew(int x, int area) {
        Key key = new Key(area, x);
        Held own = known.get(x).get(key);
        if (own == null && !areas(x).contains(area)) {
            return;
        }
        Said now = telling(x, area, own == null ? 1 : own.said.number + 1);
        if (own == null || own.age >= 20 || !own.said.same(now)) {
            Held made = new Held();
            made.said = now;
            made.fresh = true;
            known.get(x).put(key, made);
        }
    }

    private Model after(int n) {
        for (int i = 0; i < n; i++) {
            tick();
        }
        return this;
    }

    // the face

    int link(int one, int two, int area, int from, int back) {
        if (bad(one, 0, 7) || bad(two, 0, 7) || one == two || bad(area, 0, 2) || bad(from, 1, 99) || bad(back, 1, 99)) {
            return BAD;
        }
        if (wires.size() == 12) {
            return FULL;
        }
        Wire wire = new Wire();
        wire.end[0] = one;
        wire.end[1] = two;
        wire.cost[0] = from;
        wire.cost[1] = back;
        wire.area = area;
        wires.add(wire);
        return wires.size() - 1;
    }

    private static boolean bad(int v, int least, int most) {
        return v < least || v > most;
    }

    private boolean noLink(int link) {
        return bad(link, 0, wires.size() - 1);
    }

    int set(int link, int up) {
        if (noLink(link) || bad(up, 0, 1)) {
            return BAD;
        }
        boolean was = wires.get(link).up;
        wires.get(link).up = up == 1;
        return was ? 1 : 0;
    }

    int cost(int link, int end, int v) {
        if (noLink(link) || bad(end, 0, 1) || bad(v, 1, 99)) {
            return BAD;
        }
        int was = wires.get(link).cost[end];
        wires.get(link).cost[end] = v;
        return was;
    }

    int told(int link, int what) {
        if (noLink(link) || bad(what, 0, 5)) {
            return BAD;
        }
        Wire wire = wires.get(link);
        return new int[] {wire.end[0], wire.end[1], wire.area, wire.cost[0], wire.cost[1], wire.up ? 1 : 0}[what];
    }

    int router(int x, int what) {
        if (bad(x, 0, 7) || bad(what, 0, 3)) {
            return BAD;
        }
        return switch (what) {
            case 0 -> areas(x).stream().mapToInt(area -> 1 << area).sum();
            case 1 -> border(x) ? 1 : 0;
            case 2 -> known.get(x).size();
            default -> stale(x);
        };
    }

    private int stale(int x) {
        int found = 0;
        for (Map.Entry<Key, Held> one : known.get(x).entrySet()) {
            boolean isStale = one.getValue().said.costs.entrySet().stream().anyMatch(cost -> {
                Wire wire = wires.get(cost.getKey());
                return !wire.up || wire.costOf(one.getKey().of) != cost.getValue();
            });
            found += isStale ? 1 : 0;
        }
        return found;
    }

    int taken(int x, int kind) {
        if (bad(x, 0, 7) || bad(kind, 0, 2)) {
            return BAD;
        }
        boolean fits = switch (kind) {
            case 0 -> !areas(x).isEmpty();
            case 1 -> border(x);
            default -> areas(x).equals(new TreeSet<>(List.of(0)));
        };
        return fits ? (int) wires.stream().filter(wire -> wire.up && wire.ends(x)).count() : -13;
    }

    int ticks(int n) {
        int before = messages;
        return bad(n, 0, 80) ? BAD : after(n).messages - before;
    }

    int advert(int x, int of, int area, int what) {
        boolean fits = !bad(what, 0, 2) || !bad(what, 10, 21) || !bad(what, 30, 37);
        if (bad(x, 0, 7) || bad(of, 0, 7) || bad(area, 0, 2) || !fits) {
            return BAD;
        }
        Held held = known.get(x).get(new Key(area, of));
        if (held == null) {
            return STATE;
        }
        if (what >= 30) {
            return held.said.sums.get(what - 30);
        }
        return switch (what) {
            case 0 -> held.said.number;
            case 1 -> held.age;
            case 2 -> held.said.costs.keySet().stream().mapToInt(link -> 1 << link).sum();
            default -> Objects.requireNonNullElse(held.said.costs.get(what - 10), NONE);
        };
    }

    int message(int i, int what) {
        if (bad(what, 0, 4)) {
            return BAD;
        }
        if (bad(i, 0, waiting.size() - 1)) {
            return -12;
        }
        Message m = waiting.get(i);
        return new int[] {m.wire, m.to, m.key.of, m.key.area, m.said.number}[what];
    }

    int within(int x, int to, int area, int what) {
        if (bad(x, 0, 7) || bad(to, 0, 7) || bad(area, 0, 2) || bad(what, 0, 1)) {
            return BAD;
        }
        return what == 0 ? distance(x, to, area) : firstHop(x, to, area);
    }

    int route(int x, int to, int what) {
        if (bad(x, 0, 7) || bad(to, 0, 7) || bad(what, 0, 3)) {
            return BAD;
        }
        Route way = way(x, to);
        return new int[] {way.cost, way.hop, way.area, way.by}[what];
    }

    int packet(int from, int to, int what) {
        if (bad(from, 0, 7) || bad(to, 0, 7) || bad(what, 0, 2) && bad(what, 10, 18)) {
            return BAD;
        }
        List<Integer> behind = new ArrayList<>();
        int paid = 0;
        int at = from;
        boolean lost = false;
        while (at != to && !lost && behind.size() < 9) {
            Route way = way(at, to);
            Wire over = null;
            for (Wire wire : wires) {
                boolean fits = wire.up && wire.area == way.area && wire.ends(at) && wire.other(at) == way.hop;
                if (fits && (over == null || wire.costOf(at) < over.costOf(at))) {
                    over = wire;
                }
            }
            if (over == null) {
                lost = true;
            } else {
                paid += over.costOf(at);
                at = over.other(at);
                behind.add(at);
            }
        }
        return switch (what) {
            case 0 -> at == to ? 1 : lost ? 0 : 2;
            case 1 -> behind.size();
            case 2 -> paid;
            default -> what - 10 < behind.size() ? behind.get(what - 10) : NONE;
        };
    }

    private int least(int from, int to, int without) {
        int[][] edge = new int[8][8];
        for (int[] row : edge) {
            java.util.Arrays.fill(row, FAR);
        }
        for (int link = 0; link < wires.size(); link++) {
            Wire wire = wires.get(link);
            if (wire.up && link != without) {
                for (int e = 0; e < 2; e++) {
                    int a = wire.end[e];
                    int b = wire.end[1 - e];
                    edge[a][b] = Math.min(edge[a][b], wire.cost[e]);
                }
            }
        }
        return Math.min(FAR, allPairs(edge)[from][to]);
    }

    int truly(int from, int to) {
        return bad(from, 0, 7) || bad(to, 0, 7) ? BAD : least(from, to, NONE);
    }

    int cuts(int from, int to) {
        if (bad(from, 0, 7) || bad(to, 0, 7)) {
            return BAD;
        }
        int bits = 0;
        for (int link = 0; link < wires.size(); link++) {
            if (wires.get(link).up && least(from, to, NONE) < FAR && least(from, to, link) == FAR) {
                bits |= 1 << link;
            }
        }
        return bits;
    }

    int settled(int what) {
        if (bad(what, 0, 2)) {
            return BAD;
        }
        Model thought = copied();
        int quiet = NONE;
        for (int n = 1; n <= 80 && quiet == NONE; n++) {
            int arrived = thought.waiting.size();
            int sent = thought.tick();
            quiet = arrived == 0 && sent == 0 ? n : NONE;
        }
        int stale = 0;
        for (int x = 0; x < 8; x++) {
            stale += thought.stale(x);
        }
        return new int[] {quiet, thought.messages - messages, stale}[what];
    }

    int broken(int link, int from, int to) {
        if (noLink(link) || bad(from, 0, 7) || bad(to, 0, 7)) {
            return BAD;
        }
        return wires.get(link).up ? broken(link).way(from, to).cost : STATE;
    }

    private Model broken(int link) {
        Model thought = copied();
        thought.wires.get(link).up = false;
        return thought.after(40);
    }

    private Model drawn(int seed) {
        Model thought = copied();
        int z = seed;
        for (Wire wire : thought.wires) {
            z = z * 1103515245 + 12345;
            if ((z >>> 9) % 4 == 0) {
                wire.up = false;
            }
        }
        return thought.after(40);
    }

    int drawn(int x, int seed) {
        if (bad(x, 0, 7)) {
            return BAD;
        }
        Model thought = drawn(seed);
        int found = 0;
        for (int to = 0; to < 8; to++) {
            found += thought.way(x, to).cost != NONE ? 1 : 0;
        }
        return found;
    }

    int chance(int x, int seed, int m, int part) {
        if (bad(x, 0, 7) || bad(m, 1, 6) || bad(part, 0, 1)) {
            return BAD;
        }
        int hits = 0;
        for (int i = 0; i < m; i++) {
            Model thought = drawn(seed + i);
            boolean all = true;
            for (int to = 0; to < 8; to++) {
                all &= thought.way(x, to).cost != NONE == thought.least(x, to, NONE) < FAR;
            }
            hits += all ? 1 : 0;
        }
        int shared = java.math.BigInteger.valueOf(hits).gcd(java.math.BigInteger.valueOf(m)).intValue();
        return (part == 0 ? hits : m) / shared;
    }

    private int otherwise(int sheet, int x) {
        int[] row = sheets.get(sheet);
        for (int to = 0; to < row.length; to++) {
            if (row[to] != way(x, to).cost) {
                return to;
            }
        }
        return NONE;
    }

    private int otherwiseBy(Model thought, int sheet, int x) {
        thought.sheets.put(sheet, sheets.get(sheet));
        return thought.otherwise(sheet, x);
    }

    int tells(int sheet, int x, int what) {
        if (bad(sheet, 0, 3) || bad(x, 0, 7) || what < 0 || what == 3 || what > 3 && what % 4 > 1) {
            return BAD;
        }
        int link = what / 4 - 1;
        if (what > 3 && noLink(link)) {
            return -12;
        }
        if (!sheets.containsKey(sheet)) {
            return -11;
        }
        if (sheets.get(sheet).length > 8) {
            return BAD;
        }
        int bits = 0;
        if (what == 0) {
            return otherwise(sheet, x);
        } else if (what == 1) {
            for (int from = 0; from < 8; from++) {
                bits |= otherwise(sheet, from) == NONE ? 1 << from : 0;
            }
            return bits;
        } else if (what == 2) {
            for (int one = 0; one < wires.size(); one++) {
                if (wires.get(one).up && otherwiseBy(broken(one), sheet, x) == NONE) {
                    bits |= 1 << one;
                }
            }
            return bits;
        }
        List<Integer> costs = new ArrayList<>();
        for (int c = 1; c <= 12; c++) {
            Model thought = copied();
            thought.wires.get(link).cost[0] = c;
            if (otherwiseBy(thought.after(40), sheet, x) == NONE) {
                costs.add(c);
            }
        }
        return what % 4 == 0 ? costs.size() : costs.isEmpty() ? NONE : costs.get(0);
    }

    int film(int sheet, int x) {
        if (bad(sheet, 0, 3) || bad(x, 0, 7)) {
            return BAD;
        }
        int[] row = new int[8];
        for (int to = 0; to < 8; to++) {
            row[to] = way(x, to).cost;
        }
        sheets.put(sheet, row);
        sorts.put(sheet, 1);
        return 8;
    }

    int image() {
        image = copied();
        return wires.size();
    }

    int back() {
        if (image == null) {
            return STATE;
        }
        takeOver(image);
        return wires.size();
    }

    int count(int what) {
        if (bad(what, 0, 5)) {
            return BAD;
        }
        int all = known.stream().mapToInt(Map::size).sum();
        int up = (int) wires.stream().filter(wire -> wire.up).count();
        return new int[] {wires.size(), up, ticks, messages, waiting.size(), all}[what];
    }

    int sheet(int sheet, int sort, int n) {
        if (bad(sheet, 0, 3) || bad(sort, -1, 1) || sort >= 0 && n > 40) {
            return BAD;
        }
        if (sort >= 0 && n < 0) {
            return -14;
        }
        sheets.remove(sheet);
        if (sort >= 0) {
            sheets.put(sheet, new int[n]);
            sorts.put(sheet, sort);
        }
        return 1;
    }

    int cell(int sheet, int i, int v) {
        if (bad(sheet, 0, 3)) {
            return BAD;
        }
        if (!sheets.containsKey(sheet)) {
            return -11;
        }
        if (bad(i, 0, sheets.get(sheet).length - 1)) {
            return -12;
        }
        sheets.get(sheet)[i] = sorts.get(sheet) == 0 ? (short) v : v;
        return 1;
    }

    int copy(int sheet, int i, int other, int j, int n) {
        if (bad(sheet, 0, 3) || bad(other, 0, 3)) {
            return BAD;
        }
        if (!sheets.containsKey(sheet) || !sheets.containsKey(other)) {
            return -11;
        }
        if (!sorts.get(sheet).equals(sorts.get(other))) {
            return -13;
        }
        int[] from = sheets.get(sheet);
        int[] to = sheets.get(other);
        if (n < 0 || i < 0 || j < 0 || (long) i + n > from.length || (long) j + n > to.length) {
            return -12;
        }
        int[] was = from.clone();
        for (int k = 0; k < n; k++) {
            to[j + k] = was[i + k];
        }
        return n;
    }
}

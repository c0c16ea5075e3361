import java.util.Arrays;

/**
 * Routers that tell one another of their links. The promises that it keeps, and the words in
 * capitals, are those of the project's document.
 */
public final class LinkRouter {
    public static final int NONE = -1, BAD = -2, STATE = -3, FULL = -4;

    private static final int MISSING = -11, OUTSIDE = -12, UNLIKE = -13, NEGATIVE = -14;
    private static final int ROUTERS = 8, AREAS = 3, LINKS = 12;
    private static final int DEAREST = 99, FAR = 9999;
    private static final int RENEWED_AT = 20, FORGOTTEN_AT = 60;
    private static final int THOUGHT_TICKS = 40, MOST_TICKS = 80;
    private static final int HOPS = 9, SEEDS = 6, TRIED_COSTS = 12;
    private static final int LOST = 0, ARRIVES = 1, ROUND = 2;
    private static final int SHEETS = 4, ITEMS = 40;

    private final Net live = new Net();
    private final Net thought = new Net();
    private final Net kept = new Net();
    private boolean isKept;
    private final Routes routes = new Routes();
    private final Trip trip = new Trip();
    private final Sheets sheets = new Sheets();

    public LinkRouter() {
    }

    // ---- links

    public int link(int one, int two, int area, int from, int back) {
        if (!isRouter(one) || !isRouter(two) || one == two || !isArea(area)) {
            return BAD;
        }
        if (!isCost(from) || !isCost(back)) {
            return BAD;
        }
        if (live.links.size >= LINKS) {
            return FULL;
        }
        return live.links.add(one, two, area, from, back);
    }

    public int set(int link, int up) {
        if (!live.links.has(link) || up < 0 || up > 1) {
            return BAD;
        }
        int was = live.links.up[link] ? 1 : 0;
        live.links.up[link] = up == 1;
        return was;
    }

    public int cost(int link, int end, int v) {
        if (!live.links.has(link) || end < 0 || end > 1 || !isCost(v)) {
            return BAD;
        }
        int[] costs = end == 0 ? live.links.from : live.links.back;
        int was = costs[link];
        costs[link] = v;
        return was;
    }

    public int told(int link, int what) {
        Links links = live.links;
        if (!links.has(link)) {
            return BAD;
        }
        switch (what) {
            case 0: return links.one[link];
            case 1: return links.two[link];
            case 2: return links.area[link];
            case 3: return links.from[link];
            case 4: return links.back[link];
            case 5: return links.up[link] ? 1 : 0;
            default: return BAD;
        }
    }

    public int router(int router, int what) {
        if (!isRouter(router)) {
            return BAD;
        }
        switch (what) {
            case 0: return live.links.areasOf(router);
            case 1: return isBorder(live.links.areasOf(router)) ? 1 : 0;
            case 2: return live.knownTo(router);
            case 3: return live.staleTo(router);
            default: return BAD;
        }
    }

    public int taken(int router, int kind) {
        if (!isRouter(router) || kind < 0 || kind > 2) {
            return BAD;
        }
        int areas = live.links.areasOf(router);
        boolean fits = kind == 0 ? areas != 0 : kind == 1 ? isBorder(areas) : areas == 1;
        return fits ? live.links.upOf(router) : UNLIKE;
    }

    // ---- adverts

    public int tick() {
        return live.advance(1);
    }

    public int ticks(int n) {
        return n < 0 || n > MOST_TICKS ? BAD : live.advance(n);
    }

    public int advert(int router, int of, int area, int what) {
        if (!isRouter(router) || !isRouter(of) || !isArea(area) || !isOfAdvert(what)) {
            return BAD;
        }
        Adverts known = live.known;
        int row = rowOf(router, area, of);
        if (known.number[row] == 0) {
            return STATE;
        }
        switch (what) {
            case 0: return known.number[row];
            case 1: return known.age[row];
            case 2: return known.links[row];
            default: break;
        }
        return what < 30 ? known.costs[row * LINKS + what - 10] : known.sums[row * ROUTERS + what - 30];
    }

    public int message(int i, int what) {
        if (what < 0 || what > 4) {
            return BAD;
        }
        if (i < 0 || i >= live.waiting) {
            return OUTSIDE;
        }
        switch (what) {
            case 0: return live.sentOver[i];
            case 1: return live.sentTo[i];
            case 2: return live.sentOf[i];
            case 3: return live.links.area[live.sentOver[i]];
            default: return live.sent.number[i];
        }
    }

    // ---- ways

    public int within(int router, int to, int area, int what) {
        if (!isRouter(router) || !isRouter(to) || !isArea(area) || what < 0 || what > 1) {
            return BAD;
        }
        Paths paths = routes.paths[area];
        paths.measure(live, router, area);
        return what == 0 ? paths.distance[to] : paths.hop[to];
    }

    public int route(int router, int to, int what) {
        if (!isRouter(router) || !isRouter(to) || what < 0 || what > 3) {
            return BAD;
        }
        routes.find(live, router);
        switch (what) {
            case 0: return routes.cost[to];
            case 1: return routes.hop[to];
            case 2: return routes.area[to];
            default: return routes.by[to];
        }
    }

    public int packet(int from, int to, int what) {
        boolean isHop = what >= 10 && what < 10 + HOPS;
        if (!isRouter(from) || !isRouter(to) || what < 0 || what > 2 && !isHop) {
            return BAD;
        }
        trip.go(live, routes, from, to);
        switch (what) {
            case 0: return trip.end;
            case 1: return trip.hops;
            case 2: return trip.cost;
            default: return trip.behind[what - 10];
        }
    }

    public int truly(int from, int to) {
        if (!isRouter(from) || !isRouter(to)) {
            return BAD;
        }
        return live.links.leastCost(from, to, NONE);
    }

    public int cuts(int from, int to) {
        if (!isRouter(from) || !isRouter(to)) {
            return BAD;
        }
        Links links = live.links;
        int bits = 0;
        if (links.leastCost(from, to, NONE) < FAR) {
            for (int link = 0; link < links.size; link++) {
                if (links.up[link] && links.leastCost(from, to, link) >= FAR) {
                    bits |= 1 << link;
                }
            }
        }
        return bits;
    }

    public int settled(int what) {
        if (what < 0 || what > 2) {
            return BAD;
        }
        thought.takeOver(live);
        int quiet = thought.advanceTillQuiet();
        switch (what) {
            case 0: return quiet;
            case 1: return thought.messages - live.messages;
            default: return thought.staleToAll();
        }
    }

    public int broken(int link, int from, int to) {
        if (!live.links.has(link) || !isRouter(from) || !isRouter(to)) {
            return BAD;
        }
        if (!live.links.up[link]) {
            return STATE;
        }
        breakInThought(link);
        thought.advance(THOUGHT_TICKS);
        routes.find(thought, from);
        return routes.cost[to];
    }

    // ---- by seeds

    public int drawn(int router, int seed) {
        if (!isRouter(router)) {
            return BAD;
        }
        drawInThought(seed);
        thought.advance(THOUGHT_TICKS);
        return Integer.bitCount(reached(router));
    }

    public int chance(int router, int seed, int m, int part) {
        if (!isRouter(router) || m < 1 || m > SEEDS || part < 0 || part > 1) {
            return BAD;
        }
        int hits = 0;
        for (int i = 0; i < m; i++) {
            drawInThought(seed + i);
            thought.advance(THOUGHT_TICKS);
            if (reached(router) == thought.links.joinedTo(router)) {
                hits++;
            }
        }
        int shared = commonDivisor(hits, m);
        return part == 0 ? hits / shared : m / shared;
    }

    // ---- what was told

    public int tells(int sheet, int router, int what) {
        if (!sheets.has(sheet) || !isRouter(router) || !isOfTold(what)) {
            return BAD;
        }
        int link = what / 4 - 1;
        if (what >= 4 && !live.links.has(link)) {
            return OUTSIDE;
        }
        if (sheets.isMissing(sheet)) {
            return MISSING;
        }
        if (sheets.size[sheet] > ROUTERS) {
            return BAD;
        }
        switch (what) {
            case 0: return firstOtherwise(live, sheet, router);
            case 1: return routersToldSo(sheet);
            case 2: return linksToldSo(sheet, router);
            default: break;
        }
        int costs = costsToldSo(sheet, router, link);
        if (what % 4 == 0) {
            return Integer.bitCount(costs);
        }
        return leastBit(costs);
    }

    public int film(int sheet, int router) {
        if (!sheets.has(sheet) || !isRouter(router)) {
            return BAD;
        }
        routes.find(live, router);
        sheets.become(sheet, 1, ROUTERS);
        for (int to = 0; to < ROUTERS; to++) {
            sheets.put(sheet, to, routes.cost[to]);
        }
        return ROUTERS;
    }

    public int image() {
        kept.takeOver(live);
        isKept = true;
        return live.links.size;
    }

    public int back() {
        if (!isKept) {
            return STATE;
        }
        live.takeOver(kept);
        return live.links.size;
    }

    public int count(int what) {
        switch (what) {
            case 0: return live.links.size;
            case 1: return live.links.upInAll();
            case 2: return live.ticks;
            case 3: return live.messages;
            case 4: return live.waiting;
            case 5: return live.knownToAll();
            default: return BAD;
        }
    }

    // ---- the host

    public int sheet(int sheet, int sort, int n) {
        if (!sheets.has(sheet) || sort < NONE || sort > 1) {
            return BAD;
        }
        if (sort == NONE) {
            sheets.become(sheet, NONE, 0);
            return 1;
        }
        if (n > ITEMS) {
            return BAD;
        }
        if (n < 0) {
            return NEGATIVE;
        }
        sheets.become(sheet, sort, n);
        return 1;
    }

    public int cell(int sheet, int i, int v) {
        if (!sheets.has(sheet)) {
            return BAD;
        }
        if (sheets.isMissing(sheet)) {
            return MISSING;
        }
        if (i < 0 || i >= sheets.size[sheet]) {
            return OUTSIDE;
        }
        sheets.put(sheet, i, v);
        return 1;
    }

    public int copy(int sheet, int i, int other, int j, int n) {
        if (!sheets.has(sheet) || !sheets.has(other)) {
            return BAD;
        }
        if (sheets.isMissing(sheet) || sheets.isMissing(other)) {
            return MISSING;
        }
        if (sheets.sort[sheet] != sheets.sort[other]) {
            return UNLIKE;
        }
        if (!sheets.holds(sheet, i, n) || !sheets.holds(other, j, n)) {
            return OUTSIDE;
        }
        System.arraycopy(sheets.items[sheet], i, sheets.items[other], j, n);
        return n;
    }

    // ---- in thought

    private void breakInThought(int link) {
        thought.takeOver(live);
        thought.links.up[link] = false;
    }

    private void drawInThought(int seed) {
        thought.takeOver(live);
        int z = seed;
        for (int link = 0; link < thought.links.size; link++) {
            z = z * 1103515245 + 12345;
            if ((z >>> 9) % 4 == 0) {
                thought.links.up[link] = false;
            }
        }
    }

    private void costInThought(int link, int fromOne) {
        thought.takeOver(live);
        thought.links.from[link] = fromOne;
    }

    /** Bits of the routers to whom a router has a route in thought, and of itself. */
    private int reached(int router) {
        routes.find(thought, router);
        int bits = 0;
        for (int to = 0; to < ROUTERS; to++) {
            if (routes.cost[to] != NONE) {
                bits |= 1 << to;
            }
        }
        return bits;
    }

    // ---- what a sheet tells

    private int firstOtherwise(Net net, int sheet, int router) {
        routes.find(net, router);
        int[] items = sheets.items[sheet];
        int size = Math.min(sheets.size[sheet], ROUTERS);
        for (int to = 0; to < size; to++) {
            if (items[to] != routes.cost[to]) {
                return to;
            }
        }
        return NONE;
    }

    private int routersToldSo(int sheet) {
        int bits = 0;
        for (int router = 0; router < ROUTERS; router++) {
            if (firstOtherwise(live, sheet, router) == NONE) {
                bits |= 1 << router;
            }
        }
        return bits;
    }

    private int linksToldSo(int sheet, int router) {
        int bits = 0;
        for (int link = 0; link < live.links.size; link++) {
            if (live.links.up[link]) {
                breakInThought(link);
                thought.advance(THOUGHT_TICKS);
                if (firstOtherwise(thought, sheet, router) == NONE) {
                    bits |= 1 << link;
                }
            }
        }
        return bits;
    }

    /** Bit c stands for cost c. */
    private int costsToldSo(int sheet, int router, int link) {
        int bits = 0;
        for (int c = 1; c <= TRIED_COSTS; c++) {
            costInThought(link, c);
            thought.advance(THOUGHT_TICKS);
            if (firstOtherwise(thought, sheet, router) == NONE) {
                bits |= 1 << c;
            }
        }
        return bits;
    }

    // ---- what the numbers of a call may be

    private static boolean isRouter(int router) {
        return router >= 0 && router < ROUTERS;
    }

    private static boolean isArea(int area) {
        return area >= 0 && area < AREAS;
    }

    private static boolean isCost(int v) {
        return v >= 1 && v <= DEAREST;
    }

    private static boolean isOfAdvert(int what) {
        boolean isLink = what >= 10 && what < 10 + LINKS;
        boolean isSum = what >= 30 && what < 30 + ROUTERS;
        return what >= 0 && what <= 2 || isLink || isSum;
    }

    private static boolean isOfTold(int what) {
        return what >= 0 && (what < 4 ? what <= 2 : what % 4 <= 1);
    }

    // ---- small sums

    private static boolean isBorder(int areas) {
        return (areas & 1) != 0 && areas != 1;
    }

    /** NONE, if no bit is set. */
    private static int leastBit(int bits) {
        for (int c = 0; c <= TRIED_COSTS; c++) {
            if ((bits >> c & 1) != 0) {
                return c;
            }
        }
        return NONE;
    }

    /** By routers, areas, and whose it is: the order in which adverts are sent. */
    private static int rowOf(int router, int area, int of) {
        return (router * AREAS + area) * ROUTERS + of;
    }

    /** Of a from 0 on and b from 1 on. */
    private static int commonDivisor(int a, int b) {
        for (int d = b; d > 1; d--) {
            if (a % d == 0 && b % d == 0) {
                return d;
            }
        }
        return 1;
    }

    /** The links as they truly are. */
    private static final class Links {
        int size;
        final int[] one = new int[LINKS];
        final int[] two = new int[LINKS];
        final int[] area = new int[LINKS];
        final int[] from = new int[LINKS];
        final int[] back = new int[LINKS];
        final boolean[] up = new boolean[LINKS];
        private final int[] least = new int[ROUTERS];

        boolean has(int link) {
            return link >= 0 && link < size;
        }

        int add(int endOne, int endTwo, int inArea, int costFrom, int costBack) {
            int link = size;
            one[link] = endOne;
            two[link] = endTwo;
            area[link] = inArea;
            from[link] = costFrom;
            back[link] = costBack;
            up[link] = true;
            size++;
            return link;
        }

        void takeOver(Links other) {
            size = other.size;
            System.arraycopy(other.one, 0, one, 0, LINKS);
            System.arraycopy(other.two, 0, two, 0, LINKS);
            System.arraycopy(other.area, 0, area, 0, LINKS);
            System.arraycopy(other.from, 0, from, 0, LINKS);
            System.arraycopy(other.back, 0, back, 0, LINKS);
            System.arraycopy(other.up, 0, up, 0, LINKS);
        }

        boolean isUpAt(int link, int router) {
            return up[link] && (one[link] == router || two[link] == router);
        }

        int otherEnd(int link, int router) {
            return one[link] == router ? two[link] : one[link];
        }

        int costFrom(int link, int router) {
            return one[link] == router ? from[link] : back[link];
        }

        int areasOf(int router) {
            int bits = 0;
            for (int link = 0; link < size; link++) {
                if (isUpAt(link, router)) {
                    bits |= 1 << area[link];
                }
            }
            return bits;
        }

        int upOf(int router) {
            int sum = 0;
            for (int link = 0; link < size; link++) {
                if (isUpAt(link, router)) {
                    sum++;
                }
            }
            return sum;
        }

        int upInAll() {
            int sum = 0;
            for (int link = 0; link < size; link++) {
                if (up[link]) {
                    sum++;
                }
            }
            return sum;
        }

        /** The link that a packet takes from one router to the next. */
        int cheapest(int router, int next, int inArea) {
            int best = NONE;
            for (int link = 0; link < size; link++) {
                boolean fits = isUpAt(link, router) && otherEnd(link, router) == next && area[link] == inArea;
                if (fits && (best == NONE || costFrom(link, router) < costFrom(best, router))) {
                    best = link;
                }
            }
            return best;
        }

        int leastCost(int start, int to, int without) {
            spread(start, without);
            return least[to];
        }

        /** Bits of the routers to whom there is truly a way. */
        int joinedTo(int start) {
            spread(start, NONE);
            int bits = 0;
            for (int to = 0; to < ROUTERS; to++) {
                if (least[to] < FAR) {
                    bits |= 1 << to;
                }
            }
            return bits;
        }

        private void spread(int start, int without) {
            Arrays.fill(least, FAR);
            least[start] = 0;
            for (int round = 1; round < ROUTERS; round++) {
                for (int link = 0; link < size; link++) {
                    if (up[link] && link != without) {
                        int a = one[link];
                        int b = two[link];
                        least[b] = Math.min(least[b], least[a] + from[link]);
                        least[a] = Math.min(least[a], least[b] + back[link]);
                    }
                }
            }
        }
    }

    /** Rows of adverts; one whose number is 0 holds none. */
    private static final class Adverts {
        final int[] number;
        final int[] age;
        final int[] links;
        final int[] costs;
        final int[] sums;

        Adverts(int rows) {
            number = new int[rows];
            age = new int[rows];
            links = new int[rows];
            costs = new int[rows * LINKS];
            sums = new int[rows * ROUTERS];
        }

        void takeRow(int row, Adverts other, int otherRow) {
            number[row] = other.number[otherRow];
            age[row] = other.age[otherRow];
            links[row] = other.links[otherRow];
            System.arraycopy(other.costs, otherRow * LINKS, costs, row * LINKS, LINKS);
            System.arraycopy(other.sums, otherRow * ROUTERS, sums, row * ROUTERS, ROUTERS);
        }

        void takeRows(Adverts other, int rows) {
            System.arraycopy(other.number, 0, number, 0, rows);
            System.arraycopy(other.age, 0, age, 0, rows);
            System.arraycopy(other.links, 0, links, 0, rows);
            System.arraycopy(other.costs, 0, costs, 0, rows * LINKS);
            System.arraycopy(other.sums, 0, sums, 0, rows * ROUTERS);
        }

        /** An edge needs both ends' word: without links a forgotten advert gives none. */
        void forget(int row) {
            number[row] = 0;
            links[row] = 0;
        }

        boolean tellsLink(int row, int link) {
            return (links[row] >> link & 1) != 0;
        }

        boolean tellsAs(int row, Adverts other, int otherRow) {
            if (links[row] != other.links[otherRow]) {
                return false;
            }
            for (int link = 0; link < LINKS; link++) {
                if (costs[row * LINKS + link] != other.costs[otherRow * LINKS + link]) {
                    return false;
                }
            }
            for (int to = 0; to < ROUTERS; to++) {
                if (sums[row * ROUTERS + to] != other.sums[otherRow * ROUTERS + to]) {
                    return false;
                }
            }
            return true;
        }
    }

    /** All that an image keeps: links, what each router knows, what waits to arrive. */
    private static final class Net {
        /** A link carries in a tick each router's advert of its area once from each end. */
        static final int MESSAGES = LINKS * 2 * ROUTERS;
        static final int KNOWN = ROUTERS * AREAS * ROUTERS;

        final Links links = new Links();
        final Adverts known = new Adverts(KNOWN);
        final Adverts sent = new Adverts(MESSAGES);
        final int[] sentOver = new int[MESSAGES];
        final int[] sentTo = new int[MESSAGES];
        final int[] sentOf = new int[MESSAGES];
        int waiting;
        int ticks;
        int messages;
        // Nothing is fresh between two ticks: no image needs these.
        private final boolean[] fresh = new boolean[KNOWN];
        private final int[] comeBy = new int[KNOWN];
        private final Adverts draft = new Adverts(1);
        private final Paths paths = new Paths();

        void takeOver(Net other) {
            links.takeOver(other.links);
            known.takeRows(other.known, KNOWN);
            waiting = other.waiting;
            sent.takeRows(other.sent, waiting);
            System.arraycopy(other.sentOver, 0, sentOver, 0, waiting);
            System.arraycopy(other.sentTo, 0, sentTo, 0, waiting);
            System.arraycopy(other.sentOf, 0, sentOf, 0, waiting);
            ticks = other.ticks;
            messages = other.messages;
        }

        /** How many messages were sent in n ticks. */
        int advance(int n) {
            int before = messages;
            for (int i = 0; i < n; i++) {
                arrive();
                growOlder();
                tellAnew();
                sendOn();
                ticks++;
            }
            return messages - before;
        }

        int advanceTillQuiet() {
            for (int n = 1; n <= MOST_TICKS; n++) {
                boolean nothingArrives = waiting == 0;
                if (advance(1) == 0 && nothingArrives) {
                    return n;
                }
            }
            return NONE;
        }

        private void arrive() {
            for (int i = 0; i < waiting; i++) {
                if (links.up[sentOver[i]] && sentTo[i] != sentOf[i]) {
                    take(i);
                }
            }
            waiting = 0;
        }

        private void take(int i) {
            int link = sentOver[i];
            int row = rowOf(sentTo[i], links.area[link], sentOf[i]);
            if (known.number[row] < sent.number[i]) {
                known.takeRow(row, sent, i);
                fresh[row] = true;
                comeBy[row] = 1 << link;
            } else if (known.number[row] == sent.number[i] && fresh[row]) {
                comeBy[row] |= 1 << link;
            }
        }

        private void growOlder() {
            for (int row = 0; row < KNOWN; row++) {
                if (known.number[row] != 0) {
                    known.age[row]++;
                    if (known.age[row] >= FORGOTTEN_AT && !isOwn(row)) {
                        known.forget(row);
                        fresh[row] = false;
                    }
                }
            }
        }

        private static boolean isOwn(int row) {
            return row % ROUTERS == row / (ROUTERS * AREAS);
        }

        private void tellAnew() {
            for (int router = 0; router < ROUTERS; router++) {
                int areas = links.areasOf(router);
                for (int area = 0; area < AREAS; area++) {
                    int own = rowOf(router, area, router);
                    if (known.number[own] != 0 || (areas >> area & 1) != 0) {
                        draftLinks(router, area);
                        draftSums(router, area, areas);
                        tellDraft(own);
                    }
                }
            }
        }

        private void draftLinks(int router, int area) {
            draft.links[0] = 0;
            for (int link = 0; link < LINKS; link++) {
                boolean isTold = link < links.size && links.area[link] == area && links.isUpAt(link, router);
                draft.costs[link] = isTold ? links.costFrom(link, router) : NONE;
                draft.links[0] |= isTold ? 1 << link : 0;
            }
        }

        private void draftSums(int router, int area, int areas) {
            Arrays.fill(draft.sums, FAR);
            if (!isBorder(areas)) {
                return;
            }
            int summedUp = area == 0 ? areas & ~1 : 1;
            for (int other = 0; other < AREAS; other++) {
                if ((summedUp >> other & 1) != 0) {
                    paths.measure(this, router, other);
                    for (int to = 0; to < ROUTERS; to++) {
                        draft.sums[to] = Math.min(draft.sums[to], paths.distance[to]);
                    }
                }
            }
            if (area != 0) {
                sumUpAcross(router);
            }
            draft.sums[router] = FAR;
        }

        /** Behind the backbone, too; the paths are those of the backbone. */
        private void sumUpAcross(int router) {
            for (int to = 0; to < ROUTERS; to++) {
                if (draft.sums[to] >= FAR) {
                    int by = teller(paths, router, 0, to);
                    draft.sums[to] = by == NONE ? FAR : costBy(paths, rowOf(router, 0, by), to);
                }
            }
        }

        private void tellDraft(int own) {
            boolean isOld = known.number[own] == 0 || known.age[own] >= RENEWED_AT;
            if (isOld || !known.tellsAs(own, draft, 0)) {
                draft.number[0] = known.number[own] + 1;
                draft.age[0] = 0;
                known.takeRow(own, draft, 0);
                fresh[own] = true;
                comeBy[own] = 0;
            }
        }

        /** By whom across an area there is the cheapest way; the paths are the router's in that area. */
        int teller(Paths inArea, int router, int area, int to) {
            int best = NONE;
            int least = FAR;
            for (int by = 0; by < ROUTERS; by++) {
                int row = rowOf(router, area, by);
                if (by != router && known.number[row] != 0 && costBy(inArea, row, to) < least) {
                    best = by;
                    least = costBy(inArea, row, to);
                }
            }
            return best;
        }

        /** What a way costs by the sum of the advert in a row. */
        int costBy(Paths inArea, int row, int to) {
            return inArea.distance[row % ROUTERS] + known.sums[row * ROUTERS + to];
        }

        private void sendOn() {
            for (int row = 0; row < KNOWN; row++) {
                if (fresh[row]) {
                    fresh[row] = false;
                    sendRow(row);
                }
            }
            messages += waiting;
        }

        private void sendRow(int row) {
            int router = row / (ROUTERS * AREAS);
            int area = row / ROUTERS % AREAS;
            for (int link = 0; link < links.size; link++) {
                boolean fits = links.area[link] == area && links.isUpAt(link, router);
                if (fits && (comeBy[row] >> link & 1) == 0 && waiting < MESSAGES) {
                    sent.takeRow(waiting, known, row);
                    sentOver[waiting] = link;
                    sentTo[waiting] = links.otherEnd(link, router);
                    sentOf[waiting] = row % ROUTERS;
                    waiting++;
                }
            }
        }

        int knownTo(int router) {
            int sum = 0;
            for (int row = rowOf(router, 0, 0); row < rowOf(router + 1, 0, 0); row++) {
                sum += known.number[row] != 0 ? 1 : 0;
            }
            return sum;
        }

        int knownToAll() {
            int sum = 0;
            for (int router = 0; router < ROUTERS; router++) {
                sum += knownTo(router);
            }
            return sum;
        }

        int staleTo(int router) {
            int sum = 0;
            for (int row = rowOf(router, 0, 0); row < rowOf(router + 1, 0, 0); row++) {
                sum += known.number[row] != 0 && isStale(row) ? 1 : 0;
            }
            return sum;
        }

        int staleToAll() {
            int sum = 0;
            for (int router = 0; router < ROUTERS; router++) {
                sum += staleTo(router);
            }
            return sum;
        }

        private boolean isStale(int row) {
            int of = row % ROUTERS;
            for (int link = 0; link < links.size; link++) {
                if (known.tellsLink(row, link)) {
                    int told = known.costs[row * LINKS + link];
                    if (!links.up[link] || links.costFrom(link, of) != told) {
                        return true;
                    }
                }
            }
            return false;
        }
    }

    /** The ways from a router within an area, by what it knows. */
    private static final class Paths {
        final int[] distance = new int[ROUTERS];
        final int[] hop = new int[ROUTERS];
        private final boolean[] isDone = new boolean[ROUTERS];

        void measure(Net net, int router, int area) {
            for (int to = 0; to < ROUTERS; to++) {
                distance[to] = FAR;
                hop[to] = NONE;
                isDone[to] = false;
            }
            distance[router] = 0;
            int rows = rowOf(router, area, 0);
            for (int n = 0; n < ROUTERS; n++) {
                int at = nearest();
                if (at == NONE) {
                    return;
                }
                isDone[at] = true;
                goOn(net, rows, router, at);
            }
        }

        private int nearest() {
            int best = NONE;
            int least = FAR;
            for (int to = 0; to < ROUTERS; to++) {
                if (!isDone[to] && distance[to] < least) {
                    best = to;
                    least = distance[to];
                }
            }
            return best;
        }

        // Costs are 1 or more: all who stand before a router are done before it is, so that its least
        // first hop is whole when it is done.
        private void goOn(Net net, int rows, int router, int at) {
            Links links = net.links;
            Adverts known = net.known;
            for (int link = 0; link < links.size; link++) {
                int next = links.one[link] == at ? links.two[link] : links.one[link];
                int toldByBoth = known.links[rows + at] & known.links[rows + next];
                if ((toldByBoth >> link & 1) != 0) {
                    int sum = distance[at] + known.costs[(rows + at) * LINKS + link];
                    int first = at == router ? next : hop[at];
                    if (sum < distance[next] || sum == distance[next] && first < hop[next]) {
                        distance[next] = sum;
                        hop[next] = first;
                    }
                }
            }
        }
    }

    /** The routes of a router to all. */
    private static final class Routes {
        final int[] cost = new int[ROUTERS];
        final int[] hop = new int[ROUTERS];
        final int[] area = new int[ROUTERS];
        final int[] by = new int[ROUTERS];
        final Paths[] paths = {new Paths(), new Paths(), new Paths()};

        void find(Net net, int router) {
            int areas = net.links.areasOf(router);
            for (int a = 0; a < AREAS; a++) {
                if ((areas >> a & 1) != 0) {
                    paths[a].measure(net, router, a);
                }
            }
            for (int to = 0; to < ROUTERS; to++) {
                take(to, to == router ? 0 : NONE, NONE, NONE);
                by[to] = NONE;
                if (to != router) {
                    findInside(areas, to);
                    if (cost[to] == NONE) {
                        findAcross(net, router, isBorder(areas) ? 1 : areas, to);
                    }
                }
            }
        }

        private void findInside(int areas, int to) {
            int least = FAR;
            for (int a = 0; a < AREAS; a++) {
                if ((areas >> a & 1) != 0 && paths[a].distance[to] < least) {
                    least = paths[a].distance[to];
                    take(to, least, paths[a].hop[to], a);
                }
            }
        }

        private void findAcross(Net net, int router, int areas, int to) {
            int least = FAR;
            for (int a = 0; a < AREAS; a++) {
                int teller = (areas >> a & 1) != 0 ? net.teller(paths[a], router, a, to) : NONE;
                if (teller != NONE) {
                    int sum = net.costBy(paths[a], rowOf(router, a, teller), to);
                    if (sum < least) {
                        least = sum;
                        take(to, sum, paths[a].hop[teller], a);
                        by[to] = teller;
                    }
                }
            }
        }

        private void take(int to, int sum, int first, int inArea) {
            cost[to] = sum;
            hop[to] = first;
            area[to] = inArea;
        }
    }

    /** What a packet meets. */
    private static final class Trip {
        int end;
        int hops;
        int cost;
        final int[] behind = new int[HOPS];

        void go(Net net, Routes routes, int from, int to) {
            end = LOST;
            hops = 0;
            cost = 0;
            Arrays.fill(behind, NONE);
            int at = from;
            for (int hop = 0; hop < HOPS && at != to; hop++) {
                routes.find(net, at);
                int next = routes.hop[to];
                int link = next == NONE ? NONE : net.links.cheapest(at, next, routes.area[to]);
                if (link == NONE) {
                    return;
                }
                cost += net.links.costFrom(link, at);
                at = next;
                behind[hop] = at;
                hops = hop + 1;
            }
            end = at == to ? ARRIVES : ROUND;
        }
    }

    /** The host's rows of numbers; a short stands in an int. */
    private static final class Sheets {
        final int[] sort = {NONE, NONE, NONE, NONE};
        final int[] size = new int[SHEETS];
        final int[][] items = new int[SHEETS][ITEMS];

        boolean has(int sheet) {
            return sheet >= 0 && sheet < SHEETS;
        }

        boolean isMissing(int sheet) {
            return sort[sheet] == NONE;
        }

        boolean holds(int sheet, int i, int n) {
            return i >= 0 && n >= 0 && n <= size[sheet] && i <= size[sheet] - n;
        }

        void become(int sheet, int ofSort, int n) {
            sort[sheet] = ofSort;
            size[sheet] = n;
            Arrays.fill(items[sheet], 0);
        }

        void put(int sheet, int i, int v) {
            items[sheet][i] = sort[sheet] == 0 ? (short) v : v;
        }
    }
}

/** Runs that many tests begin with. */
final class Scenes {
    private Scenes() {
    }

    /** Links of an area between each router and the next, from a first one to a last one, each of a cost. */
    static Run line(int area, int first, int last, int cost) {
        Run x = new Run();
        for (int i = first; i < last; i++) {
            x.then("link", i, i + 1, area, cost, cost);
        }
        return x;
    }

    /** Link 0 between 0 and 1, link 1 between 1 and 2, link 2 between 0 and 2, dear: all knows all. */
    static Run triangle() {
        return new Run().then("link", 0, 1, 0, 1, 1).then("link", 1, 2, 0, 2, 2).then("link", 0, 2, 0, 9, 9)
            .then("ticks", 5);
    }

    /** Links 0 of the backbone, 1 of area 1, 2 of area 2, from 0 to 1, 2, 3, of costs 5, 3, 4: all knows all. */
    static Run star() {
        return new Run().then("link", 0, 1, 0, 5, 5).then("link", 0, 2, 1, 3, 3).then("link", 0, 3, 2, 4, 4)
            .then("ticks", 9);
    }

    /** Eleven links of all areas; link 10 is down; an older image; messages wait; sheets of each sort, 2 is missing. */
    static Run busy() {
        int[][] links = {
            {0, 1, 0, 1, 1}, {1, 2, 0, 2, 2}, {2, 0, 0, 4, 4}, {1, 3, 1, 3, 3}, {3, 4, 1, 5, 5}, {4, 1, 1, 9, 9},
            {2, 5, 2, 1, 2}, {5, 6, 2, 7, 7}, {6, 2, 2, 6, 6}, {6, 7, 2, 1, 1}, {7, 5, 2, 8, 8},
        };
        Run x = new Run();
        for (int[] link : links) {
            x.then("link", link);
        }
        x.then("ticks", 15).then("film", 0, 0).then("tick").then("cost", 0, 0, 2).then("image");
        x.then("set", 10, 0).then("ticks", 9).then("cost", 1, 0, 3).then("cost", 4, 1, 6).then("tick");
        x.then("sheet", 1, 0, 3).then("cell", 1, 1, -1).then("cell", 1, 2, 4);
        x.then("sheet", 3, 1, 40).then("copy", 0, 0, 3, 30, 8).then("copy", 0, 1, 3, 0, 7);
        return x;
    }

    /** The same with a twelfth link. */
    static Run full() {
        return busy().then("link", 0, 3, 1, 20, 20);
    }
}

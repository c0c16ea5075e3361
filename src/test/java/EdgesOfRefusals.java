/** Of all calls that may refuse for more than one reason: which of these they name. */
final class EdgesOfRefusals {
    private static final String WORDS = "Refusals, the first that the call's words name; they change nothing";

    private EdgesOfRefusals() {
    }

    static void run() {
        link();
        taken();
        advert();
        message();
        broken();
        tells();
        sheet();
        cell();
        copy();
        sheetsCodes();
    }

    private static void link() {
        Edges.of("Terms", WORDS);
        Run full = Scenes.full();
        full.leaves(-4, "link", 0, 1, 0, 1, 1);
        full.leaves(-2, "link", 8, 1, 0, 1, 1).leaves(-2, "link", 0, -1, 0, 1, 1).leaves(-2, "link", 3, 3, 0, 1, 1);
        full.leaves(-2, "link", 0, 1, 3, 1, 1).leaves(-2, "link", 0, 1, 0, 0, 1).leaves(-2, "link", 0, 1, 0, 1, 100);
    }

    private static void taken() {
        Edges.of("Terms", WORDS);
        Run x = Scenes.busy().then("set", 9, 0);
        x.leaves(-13, "taken", 7, 0).leaves(-2, "taken", 7, 3).leaves(-2, "taken", 8, 0);
    }

    private static void advert() {
        Edges.of("Terms", WORDS);
        Run x = Scenes.busy();
        x.leaves(-3, "advert", 0, 7, 1, 0).leaves(-2, "advert", 0, 7, 1, 3).leaves(-2, "advert", 0, 7, 1, 38);
        x.leaves(-2, "advert", 0, 8, 1, 0).leaves(-2, "advert", 8, 7, 1, 0).leaves(-2, "advert", 0, 7, 3, 0);
    }

    private static void message() {
        Edges.of("Terms", WORDS);
        Run x = Scenes.busy();
        x.leaves(-12, "message", -1, 0).leaves(-2, "message", -1, 5).leaves(-2, "message", 192, -1);
        new Run().leaves(-12, "message", 0, 0).leaves(-2, "message", 0, 5);
    }

    private static void broken() {
        Edges.of("Terms", WORDS);
        Run x = Scenes.busy();
        x.leaves(-3, "broken", 10, 0, 1).leaves(-2, "broken", 10, 8, 1).leaves(-2, "broken", 10, 0, -1);
    }

    private static void tells() {
        Edges.of("Terms", WORDS);
        Run x = Scenes.busy();
        x.leaves(-2, "tells", 4, 0, 48).leaves(-2, "tells", 2, 8, 48).leaves(-2, "tells", 2, 0, 50).leaves(-2, "tells", 2, 0, 3);
        x.leaves(-2, "tells", 2, -1, 0).leaves(-2, "tells", -1, 0, 0);
        x.leaves(-12, "tells", 2, 0, 48).leaves(-12, "tells", 3, 0, 48).leaves(-12, "tells", 0, 0, 49);
        x.leaves(-11, "tells", 2, 0, 44).leaves(-11, "tells", 2, 0, 0);
        x.leaves(-2, "tells", 3, 0, 44).leaves(-2, "tells", 3, 0, 0);
    }

    private static void sheet() {
        Edges.of("Terms", WORDS);
        Run x = Scenes.busy();
        x.leaves(-14, "sheet", 0, 0, -1).leaves(-2, "sheet", 4, 0, -1).leaves(-2, "sheet", 0, 2, -1);
        x.leaves(-2, "sheet", -1, 1, -1).leaves(-2, "sheet", 0, -2, -1).leaves(-2, "sheet", 4, 2, 41);
    }

    private static void cell() {
        Edges.of("Terms", WORDS);
        Run x = Scenes.busy();
        x.leaves(-2, "cell", 4, -1, 0).leaves(-2, "cell", -1, 40, 0);
        x.leaves(-11, "cell", 2, -1, 0).leaves(-11, "cell", 2, 40, 0).leaves(-12, "cell", 0, -1, 0);
    }

    private static void copy() {
        Edges.of("Terms", WORDS);
        Run x = Scenes.busy();
        x.leaves(-2, "copy", 4, 0, 2, 0, 1).leaves(-2, "copy", 2, 0, 4, 0, 1).leaves(-2, "copy", -1, 0, 1, 9, 1);
        x.leaves(-2, "copy", 0, 0, 4, 0, -1);
        x.leaves(-11, "copy", 2, 0, 0, 9, 1).leaves(-11, "copy", 0, -1, 2, 0, 1).leaves(-11, "copy", 2, 0, 1, 0, -1);
        x.leaves(-13, "copy", 0, 9, 1, 0, 1).leaves(-13, "copy", 1, 0, 0, -1, 1).leaves(-13, "copy", 0, 0, 1, 0, -1);
        x.leaves(-12, "copy", 0, 9, 3, 0, 1);
    }

    private static void sheetsCodes() {
        Edges.of("Terms", "of SHEETS: -11 it is missing, -12 a place outside, -13 a thing of another sort or KIND, -14 a size below 0");
        Run x = Scenes.busy();
        x.leaves(-11, "cell", 2, 0, 0).leaves(-12, "cell", 1, 3, 0).leaves(-13, "copy", 0, 0, 1, 0, 1);
        x.leaves(-13, "taken", 3, 1).leaves(-14, "sheet", 0, 1, -1);
    }
}

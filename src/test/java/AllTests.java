/** Runs every test of the project; ends with exit code 1 if one fails. */
public final class AllTests {
    private AllTests() {
    }

    public static void main(String[] args) throws Exception {
        FaceTest.run();
        LanguageTest.run();
        LinksTest.run();
        AdvertsTest.run();
        WaysTest.run();
        SeedsTest.run();
        ToldTest.run();
        HostTest.run();
        WildTest.run();
        ModelTest.run();
        Edges.run();
        ReadmeTest.run();
        if (!Check.close()) {
            System.exit(1);
        }
    }
}

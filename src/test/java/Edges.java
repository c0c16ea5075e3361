import java.io.IOException;
import java.nio.file.Files;
import java.nio.file.Path;
import java.util.HashMap;
import java.util.Map;
import java.util.Set;
import java.util.TreeSet;

/**
 * The document's sentences that name a boundary case. A test of one begins with its words; they are
 * looked up in the document, so that no test speaks of what it doesn't say.
 */
final class Edges {
    private static final Path DOCUMENT = Path.of("..", "shared", "DOC.md");
    private static final Map<String, String> SECTIONS = new HashMap<>();
    private static final Set<String> TESTED = new TreeSet<>();

    private Edges() {
    }

    static void run() throws IOException {
        readDocument();
        EdgesOfLinks.run();
        EdgesOfRefusals.run();
        EdgesOfTicks.run();
        EdgesOfAdverts.run();
        EdgesOfWays.run();
        EdgesOfPackets.run();
        EdgesOfThought.run();
        EdgesOfTold.run();
        EdgesOfHost.run();
        Check.part("edges");
        for (int promise = 1; promise <= 28; promise++) {
            Check.holds("promise " + promise + " has a test of its edges", TESTED.contains("Promise " + promise));
        }
    }

    /** What is checked from here on is the test of these words. */
    static void of(String section, String words) {
        Check.part(section + ", \"" + words + "\"");
        Check.holds("the document says so", SECTIONS.getOrDefault(section, "").contains(words));
        TESTED.add(section);
    }

    private static void readDocument() throws IOException {
        for (String section : Files.readString(DOCUMENT).split("\n## ")) {
            String title = section.split("[:\n]", 2)[0];
            SECTIONS.put(title, section.replaceAll("\\s+", " "));
        }
    }
}

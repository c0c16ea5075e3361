import java.util.ArrayList;
import java.util.Arrays;
import java.util.List;

/**
 * A run of calls on a new object, told by their names: so it can be made again on another one, and
 * never has more than the 512 calls for which the document promises anything.
 */
final class Run {
    static final int MOST = 512;

    private record Call(String name, int[] args) {
        @Override
        public String toString() {
            String inside = Arrays.toString(args);
            return name + "(" + inside.substring(1, inside.length() - 1) + ")";
        }
    }

    private final LinkRouter x = new LinkRouter();
    private final List<Call> calls = new ArrayList<>();
    private String reading = null;

    int ask(String name, int... args) {
        if (calls.size() == MOST) {
            throw new IllegalStateException("no more than " + MOST + " calls are promised");
        }
        calls.add(new Call(name, args));
        reading = null;
        return answer(x, name, args);
    }

    /** A call whose answer is told elsewhere. */
    Run then(String name, int... args) {
        ask(name, args);
        return this;
    }

    /** A call that answers what is due. */
    Run due(int want, String name, int... args) {
        Check.due(new Call(name, args) + " behind " + calls.size() + " calls", ask(name, args), want);
        return this;
    }

    /** A call that answers what is due, and behind which all that can be asked is as it was. */
    Run leaves(int want, String name, int... args) {
        String call = new Call(name, args) + " behind " + calls.size() + " calls";
        Run with = again();
        Check.due(call, with.ask(name, args), want);
        Check.holds(call + " changed something", with.reading().equals(reading()));
        return this;
    }

    /** The same calls on a new object. */
    Run again() {
        Run made = new Run();
        for (Call call : calls) {
            made.ask(call.name, call.args);
        }
        return made;
    }

    boolean isSpent() {
        return calls.size() == MOST;
    }

    String reading() {
        if (reading == null) {
            reading = Reading.ofAll(this);
        }
        return reading;
    }

    private static int answer(LinkRouter x, String name, int... a) {
        return switch (name) {
            case "link" -> x.link(a[0], a[1], a[2], a[3], a[4]);
            case "set" -> x.set(a[0], a[1]);
            case "cost" -> x.cost(a[0], a[1], a[2]);
            case "told" -> x.told(a[0], a[1]);
            case "router" -> x.router(a[0], a[1]);
            case "taken" -> x.taken(a[0], a[1]);
            case "tick" -> x.tick();
            case "ticks" -> x.ticks(a[0]);
            case "advert" -> x.advert(a[0], a[1], a[2], a[3]);
            case "message" -> x.message(a[0], a[1]);
            case "within" -> x.within(a[0], a[1], a[2], a[3]);
            case "route" -> x.route(a[0], a[1], a[2]);
            case "packet" -> x.packet(a[0], a[1], a[2]);
            case "truly" -> x.truly(a[0], a[1]);
            case "cuts" -> x.cuts(a[0], a[1]);
            case "settled" -> x.settled(a[0]);
            case "broken" -> x.broken(a[0], a[1], a[2]);
            case "drawn" -> x.drawn(a[0], a[1]);
            case "chance" -> x.chance(a[0], a[1], a[2], a[3]);
            case "tells" -> x.tells(a[0], a[1], a[2]);
            case "film" -> x.film(a[0], a[1]);
            case "image" -> x.image();
            case "back" -> x.back();
            case "count" -> x.count(a[0]);
            case "sheet" -> x.sheet(a[0], a[1], a[2]);
            case "cell" -> x.cell(a[0], a[1], a[2]);
            case "copy" -> x.copy(a[0], a[1], a[2], a[3], a[4]);
            default -> throw new IllegalArgumentException("no call is named " + name);
        };
    }
}

/**
 * All that can be asked of an object behind a run of calls, as one text. It asks as many objects,
 * each behind the same run, as it takes: none is asked more than is promised.
 */
final class Reading {
    private static final int STATE = -3, MISSING = -11;

    private final Run base;
    private final StringBuilder text = new StringBuilder();
    private Run asked;

    private Reading(Run base) {
        this.base = base;
        asked = base.again();
    }

    /** Links, adverts, messages, counts, sheets, the image, and what the next ticks bring. */
    static String ofAll(Run base) {
        String sheets = ofSheets(base);
        Run laidBack = base.again();
        int kept = laidBack.ask("back");
        return ofNet(base) + sheets + "image " + kept + (kept == STATE ? "" : ofNet(laidBack));
    }

    /** All that an image keeps. */
    static String ofNet(Run base) {
        Reading reading = new Reading(base);
        reading.links();
        reading.adverts();
        reading.messages();
        reading.ahead();
        return reading.text.toString();
    }

    static String ofSheets(Run base) {
        StringBuilder all = new StringBuilder();
        for (int sheet = 0; sheet < 4; sheet++) {
            Reading reading = new Reading(base);
            reading.oneSheet(sheet);
            all.append(reading.text);
        }
        return all.toString();
    }

    private int ask(String name, int... args) {
        if (asked.isSpent()) {
            asked = base.again();
        }
        int answer = asked.ask(name, args);
        text.append(answer).append(' ');
        return answer;
    }

    private void links() {
        text.append("counts ");
        for (int what = 0; what < 6; what++) {
            ask("count", what);
        }
        for (int link = 0; link < 12; link++) {
            text.append("\nlink ").append(link).append(": ");
            for (int what = 0; what < 6; what++) {
                ask("told", link, what);
            }
        }
    }

    private void adverts() {
        for (int router = 0; router < 8; router++) {
            text.append("\nrouter ").append(router).append(": ");
            for (int i = 0; i < 24; i++) {
                if (ask("advert", router, i % 8, i / 8, 0) != STATE) {
                    advert(router, i % 8, i / 8);
                }
            }
        }
    }

    private void advert(int router, int of, int area) {
        text.append("\n  of ").append(of).append(" for ").append(area).append(": ");
        for (int what = 0; what < 38; what++) {
            if (what < 3 || what >= 10 && what < 22 || what >= 30) {
                ask("advert", router, of, area, what);
            }
        }
    }

    private void messages() {
        int waiting = ask("count", 4);
        for (int i = 0; i < waiting; i++) {
            text.append("\nmessage ").append(i).append(": ");
            for (int what = 0; what < 5; what++) {
                ask("message", i, what);
            }
        }
    }

    private void ahead() {
        asked = base.again();
        text.append("\nahead: ");
        for (int i = 0; i < 25; i++) {
            ask("tick");
        }
        ask("count", 5);
        text.append('\n');
    }

    /** An item can't be asked for: it is copied, and the routers asked from whom it is a way's cost to 0. */
    private void oneSheet(int sheet) {
        text.append("\nsheet ").append(sheet).append(": ");
        int size = ask("copy", sheet, 0, sheet, 0, 0);
        if (size == MISSING) {
            return;
        }
        while (ask("copy", sheet, 0, sheet, 0, size + 1) == size + 1) {
            size++;
        }
        int spare = (sheet + 1) % 4;
        ask("sheet", spare, 1, 1);
        int sort = ask("copy", sheet, 0, spare, 0, 0) == 0 ? 1 : 0;
        ask("sheet", spare, sort, 1);
        for (int i = 0; i < size; i++) {
            ask("copy", sheet, i, spare, 0, 1);
            ask("tells", spare, 0, 1);
        }
    }
}

/** Promises 8 and 9: the edges of what goes on in a tick, part by part. */
final class EdgesOfTicks {
    private EdgesOfTicks() {
    }

    static void run() {
        nothingToSend();
        howManySent();
        arrivesAsSent();
        newerBehindOlder();
        linkIsDown();
        linkIsUpAgain();
        knowsNone();
        lesserNumber();
        thatVeryOne();
        notFresh();
        itsOwn();
        oneOlder();
        ageOfSixty();
        ageOfSixtyOfAll();
        butItsOwn();
        neverTold();
        toldOnce();
        whatItTells();
        whatItTellsOfSums();
        asItsTurnComes();
        ageOfTwenty();
        thereIsNone();
        numberAndAge();
        order();
        orderOfAreas();
        overWhichLinks();
        notByWhichItCame();
        theAgeItHas();
        nothingFresh();
        counted();
        ticksTaken();
        ticksRefused();
    }

    private static void nothingToSend() {
        Edges.of("Promise 8", "A TICK: how many MESSAGES were SENT.");
        Run x = new Run().due(0, "tick").due(1, "count", 2).due(0, "count", 5);
        x.then("link", 0, 7, 0, 1, 1).then("set", 0, 0).due(0, "tick").due(0, "count", 5).due(2, "count", 2);
    }

    private static void howManySent() {
        Edges.of("Promise 8", "how many MESSAGES were SENT.");
        Run x = new Run();
        for (int i = 0; i < 12; i++) {
            x.then("link", 0, 7, 1, 1, 1);
        }
        x.due(24, "tick").due(24, "count", 4).due(0, "tick").due(0, "count", 4).due(24, "count", 3);
        Scenes.line(0, 0, 7, 1).due(14, "tick").due(12, "tick").due(12, "count", 4);
    }

    /** By link 1 comes 0's second advert behind its third by link 0 or 2: it is no more taken. */
    private static void arrivesAsSent() {
        Edges.of("Terms", "all that was SENT in the last TICK ARRIVES, one behind another, as SENT");
        Run x = Scenes.triangle().then("cost", 0, 0, 2).due(2, "tick").then("cost", 0, 0, 3).due(4, "tick");
        x.due(3, "message", 0, 4).due(3, "message", 1, 4).due(2, "message", 2, 4).due(2, "message", 3, 4);
        x.due(2, "tick").due(3, "advert", 1, 0, 0, 0).due(3, "advert", 2, 0, 0, 0).due(3, "advert", 1, 0, 0, 10);
        x.due(3, "message", 0, 4).due(3, "message", 1, 4).due(0, "tick").due(0, "count", 4);
    }

    /** To 1 come 2's second advert by 0, then its third by their own link: by 0 it hasn't come, so 0 gets it. */
    private static void newerBehindOlder() {
        Edges.of("Terms", "one behind another, as SENT");
        Run x = new Run().then("link", 2, 0, 0, 1, 1).then("link", 0, 1, 0, 1, 1).then("link", 2, 1, 0, 1, 1);
        x.then("ticks", 4).then("set", 2, 0).then("ticks", 4).then("cost", 0, 0, 5).due(1, "tick");
        x.then("set", 2, 1).then("tick");
        x.due(2, "message", 0, 2).due(1, "message", 0, 1).due(3, "message", 0, 4);
        x.then("tick").due(4, "advert", 1, 2, 0, 0);
        int found = 0;
        for (int i = x.ask("count", 4) - 1; i >= 0; i--) {
            boolean isTwos = x.ask("message", i, 2) == 2 && x.ask("message", i, 4) == 4;
            found += isTwos && x.ask("message", i, 0) == 1 && x.ask("message", i, 1) == 0 ? 1 : 0;
            found += isTwos && x.ask("message", i, 0) == 2 ? 100 : 0;
        }
        Check.due("1 sends the third on to 0 alone", found, 1);
    }

    private static void linkIsDown() {
        Edges.of("Terms", "if its LINK is up, and the ROUTER at the other END KNOWS no ADVERT");
        Run x = Scenes.line(0, 0, 2, 1).due(4, "tick").then("set", 0, 0).then("tick");
        x.leaves(-3, "advert", 0, 1, 0, 0).leaves(-3, "advert", 1, 0, 0, 0);
        x.due(1, "advert", 1, 2, 0, 0).due(1, "advert", 2, 1, 0, 0);
        x.then("set", 0, 1).then("tick").then("set", 0, 0).then("tick").leaves(-3, "advert", 0, 1, 0, 0);
    }

    private static void linkIsUpAgain() {
        Edges.of("Terms", "if its LINK is up");
        Run x = Scenes.line(0, 0, 1, 1).then("tick").then("set", 0, 0).then("set", 0, 1).due(0, "tick");
        x.due(1, "advert", 0, 1, 0, 0).due(1, "advert", 1, 0, 0, 0).due(1, "route", 0, 1, 0);
    }

    private static void knowsNone() {
        Edges.of("Terms", "KNOWS no ADVERT of that ROUTER and AREA");
        Run x = new Run().then("link", 0, 7, 1, 1, 1).due(2, "tick").then("link", 0, 7, 2, 1, 1);
        x.due(-3, "advert", 7, 0, 1, 0).then("tick").due(1, "advert", 7, 0, 1, 0).due(-3, "advert", 7, 0, 2, 0);
        x.then("tick").due(1, "advert", 7, 0, 2, 0).due(1, "advert", 7, 0, 1, 0).due(2, "advert", 7, 0, 1, 1);
    }

    /** What comes anew with the same number, or with a lesser one, is not taken: its age stays, and nobody is sent it. */
    private static void lesserNumber() {
        Edges.of("Terms", "or one of a lesser NUMBER, it KNOWS this one from then on");
        Run x = Scenes.triangle().then("cost", 0, 0, 2).then("tick").due(1, "advert", 1, 0, 0, 0);
        x.then("tick").due(2, "advert", 1, 0, 0, 0).due(2, "advert", 1, 0, 0, 10).due(1, "advert", 1, 0, 0, 1);
        x.due(2, "count", 4).due(2, "message", 0, 4).due(0, "tick").due(2, "advert", 1, 0, 0, 0);
        Run line = Scenes.line(0, 0, 1, 1).then("tick").then("link", 0, 1, 0, 1, 1).then("tick").then("tick");
        line.due(2, "advert", 0, 1, 0, 0).due(3, "advert", 0, 1, 0, 2).due(0, "tick");
    }

    private static void thatVeryOne() {
        Edges.of("Terms", "if it KNOWS that very one, and it is FRESH to it, it has COME BY this LINK, too.");
        Run x = new Run().then("link", 0, 1, 0, 1, 1).then("link", 0, 1, 0, 1, 1).then("link", 0, 1, 0, 1, 1)
            .then("link", 1, 2, 0, 1, 1);
        x.due(8, "tick").due(4, "tick").due(0, "tick");
        Run ring = Scenes.line(0, 0, 3, 1).then("link", 3, 0, 0, 1, 1);
        ring.due(8, "tick").due(8, "tick").due(0, "tick").due(16, "count", 5);
    }

    /** 2 hears of 0 by 1 a tick behind hearing of it itself: neither 2 nor 1 sends it on again. */
    private static void notFresh() {
        Edges.of("Terms", "if it KNOWS that very one, and it is FRESH to it");
        Run x = Scenes.triangle().then("cost", 2, 0, 8).due(2, "tick").due(2, "tick").due(0, "tick").due(0, "tick");
        x.due(0, "count", 4).due(2, "advert", 2, 0, 0, 0).due(3, "advert", 2, 0, 0, 1);
    }

    private static void itsOwn() {
        Edges.of("Terms", "(Its own ADVERTS never come to a ROUTER.)");
        Run x = new Run().then("link", 0, 1, 0, 1, 1).then("tick").then("link", 0, 1, 0, 1, 1).due(6, "tick");
        x.due(1, "message", 2, 2).due(1, "message", 2, 1).due(1, "message", 2, 4);
        x.due(2, "advert", 1, 1, 0, 0).due(0, "advert", 1, 1, 0, 1);
        x.due(0, "tick").due(2, "advert", 1, 1, 0, 0).due(1, "advert", 1, 1, 0, 1).due(3, "advert", 1, 1, 0, 2).due(0, "count", 4);
    }

    private static void oneOlder() {
        Edges.of("Terms", "All ADVERTS that ROUTERS KNOW are 1 older (each ROUTER's by itself)");
        Run x = Scenes.line(0, 0, 2, 1).then("tick").due(0, "advert", 0, 0, 0, 1).then("tick");
        x.due(1, "advert", 0, 0, 0, 1).due(1, "advert", 1, 0, 0, 1).then("tick").due(2, "advert", 2, 0, 0, 1);
        x.then("set", 0, 0).then("tick");
        x.due(0, "advert", 0, 0, 0, 1).due(3, "advert", 1, 0, 0, 1).due(3, "advert", 2, 0, 0, 1);
        x.then("ticks", 10).due(10, "advert", 0, 0, 0, 1).due(13, "advert", 1, 0, 0, 1).due(13, "advert", 2, 0, 0, 1);
        x.due(10, "advert", 1, 1, 0, 1).due(10, "advert", 2, 1, 0, 1).due(13, "advert", 0, 1, 0, 1);
    }

    private static void ageOfSixty() {
        Edges.of("Terms", "those of AGE 60 are no more KNOWN");
        Run x = Scenes.line(0, 0, 1, 1).then("ticks", 2).then("set", 0, 0).then("ticks", 58);
        x.due(59, "advert", 0, 1, 0, 1).due(59, "advert", 1, 0, 0, 1).due(2, "router", 0, 2).due(4, "count", 5);
        x.due(1, "router", 0, 3).then("tick");
        x.leaves(-3, "advert", 0, 1, 0, 1).leaves(-3, "advert", 1, 0, 0, 0).due(1, "router", 0, 2).due(2, "count", 5);
        x.due(0, "router", 0, 3);
        x.then("set", 0, 1).due(2, "tick").due(9999, "within", 0, 1, 0, 0);
        x.due(0, "tick").due(1, "within", 0, 1, 0, 0).due(1, "advert", 0, 1, 0, 1).due(4, "count", 5);
    }

    /** Of all routers in each area; and they are told apart from the 59 that are still known. */
    private static void ageOfSixtyOfAll() {
        Edges.of("Terms", "(each ROUTER's by itself); those of AGE 60 are no more KNOWN");
        for (int area = 0; area <= 2; area++) {
            Run x = Scenes.line(area, 0, 7, 1).then("ticks", 8).due(64, "count", 5);
            for (int link = 0; link < 7; link++) {
                x.then("set", link, 0);
            }
            x.then("ticks", 52).due(64, "count", 5).due(59, "advert", 7, 0, area, 1).then("tick").due(8, "count", 5);
            for (int i = 0; i < 64; i++) {
                x.due(i / 8 == i % 8 ? 4 : -3, "advert", i / 8, i % 8, area, 0);
            }
        }
    }

    private static void butItsOwn() {
        Edges.of("Terms", "are no more KNOWN, but its own.");
        Run x = Scenes.line(0, 0, 1, 1).then("ticks", 2).then("set", 0, 0);
        for (int i = 1; i <= 100; i++) {
            x.then("tick").due((i - 1) % 20, "advert", 0, 0, 0, 1).due(2 + (i - 1) / 20, "advert", 0, 0, 0, 0);
        }
        x.due(1, "router", 0, 2).due(0, "advert", 0, 0, 0, 2);
    }

    private static void neverTold() {
        Edges.of("Terms", "if it never told one and isn't IN it, nothing");
        Run x = new Run().then("link", 0, 7, 0, 1, 1).then("set", 0, 0).then("ticks", 80).due(0, "count", 5);
        x.then("link", 0, 7, 1, 1, 1).then("ticks", 3).due(1, "advert", 0, 0, 1, 0).due(4, "count", 5);
        x.leaves(-3, "advert", 0, 0, 0, 0).leaves(-3, "advert", 0, 0, 2, 0).leaves(-3, "advert", 6, 6, 1, 0);
    }

    private static void toldOnce() {
        Edges.of("Terms", "if it never told one and isn't IN it, nothing; else");
        Run x = Scenes.line(1, 6, 7, 4).due(2, "tick").due(1, "advert", 7, 7, 1, 2).then("set", 0, 0).due(0, "tick");
        x.due(2, "advert", 7, 7, 1, 0).due(0, "advert", 7, 7, 1, 2).due(-1, "advert", 7, 7, 1, 10).due(0, "advert", 7, 7, 1, 1);
        x.then("ticks", 19).due(2, "advert", 7, 7, 1, 0).due(0, "tick").due(3, "advert", 7, 7, 1, 0);
    }

    private static void whatItTells() {
        Edges.of("Terms", "isn't what its ADVERT tells");
        Run x = Scenes.triangle().due(0, "tick");
        x.then("cost", 0, 0, 7).then("set", 1, 0).then("cost", 0, 0, 1).then("set", 1, 1).due(0, "tick");
        x.due(1, "advert", 0, 0, 0, 0).due(1, "advert", 1, 1, 0, 0).due(1, "advert", 2, 2, 0, 0);
        x.then("cost", 0, 1, 7).due(2, "tick").due(1, "advert", 0, 0, 0, 0).due(2, "advert", 1, 1, 0, 0);
        x.then("ticks", 3).then("set", 2, 0).due(2, "tick").due(2, "advert", 0, 0, 0, 0).due(2, "advert", 2, 2, 0, 0);
        x.due(2, "advert", 1, 1, 0, 0).then("ticks", 3).then("set", 2, 1).due(4, "tick").due(3, "advert", 0, 0, 0, 0);
        x.then("ticks", 3).then("link", 0, 3, 0, 1, 1).due(4, "tick").due(4, "advert", 0, 0, 0, 0);
        Run two = new Run().then("link", 0, 1, 1, 1, 1).then("link", 0, 2, 2, 1, 1).then("ticks", 3);
        two.then("cost", 1, 0, 9).due(1, "tick").due(1, "advert", 0, 0, 1, 0).due(2, "advert", 0, 0, 2, 0);
    }

    /** Only the sum is otherwise: links and costs of 0 for the backbone are as they were. */
    private static void whatItTellsOfSums() {
        Edges.of("Terms", "isn't what its ADVERT tells, or");
        Run x = Scenes.star();
        int number = x.ask("advert", 0, 0, 0, 0);
        x.then("cost", 1, 0, 6).then("tick").due(number, "advert", 0, 0, 0, 0).due(3, "advert", 0, 0, 0, 32);
        x.then("tick").due(number + 1, "advert", 0, 0, 0, 0).due(6, "advert", 0, 0, 0, 32).due(1, "advert", 0, 0, 0, 2);
        x.due(5, "advert", 0, 0, 0, 10).then("ticks", 2).due(6, "advert", 1, 0, 0, 32);
    }

    /** 0 tells the backbone first; so areas 1 and 2 hear of what it tells there in the same tick, the backbone a tick later. */
    private static void asItsTurnComes() {
        Edges.of("Terms", "(by what all is as its turn comes)");
        Run x = Scenes.star().then("cost", 0, 0, 8).then("tick").due(8, "advert", 0, 0, 1, 31).due(8, "advert", 0, 0, 2, 31);
        x.then("cost", 1, 0, 9).then("tick").due(3, "advert", 0, 0, 0, 32).then("tick").due(9, "advert", 0, 0, 0, 32);
        x.then("set", 0, 0).then("tick").due(9999, "advert", 0, 0, 0, 32).due(9999, "advert", 0, 0, 1, 31);
        x.due(9999, "advert", 0, 0, 2, 31);
    }

    private static void ageOfTwenty() {
        Edges.of("Terms", "or that one's AGE is 20 or more");
        Run x = Scenes.line(0, 0, 1, 1).due(2, "tick");
        for (int i = 1; i <= 19; i++) {
            x.due(0, "tick").due(i, "advert", 0, 0, 0, 1);
        }
        x.due(1, "advert", 0, 0, 0, 0).due(2, "tick").due(2, "advert", 0, 0, 0, 0).due(0, "advert", 0, 0, 0, 1);
        x.due(1, "advert", 0, 1, 0, 0).due(20, "advert", 0, 1, 0, 1);
        x.due(0, "tick").due(2, "advert", 0, 1, 0, 0).due(1, "advert", 0, 1, 0, 1);
        x.due(0, "ticks", 18).due(2, "tick").due(0, "ticks", 19).due(2, "tick").due(4, "advert", 0, 0, 0, 0);
        Run late = Scenes.line(0, 0, 1, 1).then("ticks", 20).then("cost", 0, 0, 2).due(2, "tick").due(2, "advert", 0, 0, 0, 0);
        late.due(0, "ticks", 19).due(2, "tick");
        Run early = Scenes.line(0, 0, 1, 1).then("ticks", 10).then("cost", 0, 0, 2).due(1, "tick");
        early.due(0, "ticks", 9).due(1, "tick").due(0, "ticks", 9).due(1, "tick").due(3, "advert", 0, 0, 0, 0);
    }

    private static void thereIsNone() {
        Edges.of("Terms", "or there is none, its new ADVERT");
        Run x = new Run().due(-3, "advert", 7, 7, 2, 0).then("link", 0, 7, 2, 3, 5).due(-3, "advert", 7, 7, 2, 0);
        x.due(2, "tick").due(1, "advert", 7, 7, 2, 0).due(1, "advert", 7, 7, 2, 2).due(5, "advert", 7, 7, 2, 10);
    }

    private static void numberAndAge() {
        Edges.of("Terms", "(NUMBER 1 more; AGE 0) is KNOWN to it, FRESH, COME BY none.");
        Run x = Scenes.line(0, 0, 2, 1).due(4, "tick").due(1, "advert", 1, 1, 0, 0).due(0, "advert", 1, 1, 0, 1);
        x.then("ticks", 3).due(1, "advert", 1, 1, 0, 0).due(3, "advert", 1, 1, 0, 1);
        for (int number = 2; number <= 12; number++) {
            x.then("cost", 0, 1, number).due(2, "tick");
            x.due(number, "advert", 1, 1, 0, 0).due(0, "advert", 1, 1, 0, 1).due(number, "advert", 1, 1, 0, 10);
        }
    }

    private static void order() {
        Edges.of("Terms", "Each ROUTER, by numbers, each ADVERT that is FRESH to it, by AREAS, then by whose it is, is SENT");
        Run x = new Run().then("link", 7, 0, 2, 1, 1).then("link", 0, 7, 0, 1, 1).then("link", 7, 6, 0, 1, 1);
        x.then("tick");
        messages(x, new int[][] {
            {1, 7, 0, 0, 1}, {0, 7, 0, 2, 1}, {2, 7, 6, 0, 1}, {1, 0, 7, 0, 1}, {2, 6, 7, 0, 1}, {0, 0, 7, 2, 1},
        });
        x.then("tick");
        // 0 and 7 are borders now, and sum up one another; 7 sends on what 0 and 6 told the backbone.
        messages(x, new int[][] {
            {1, 7, 0, 0, 2}, {0, 7, 0, 2, 2}, {2, 6, 0, 0, 1}, {1, 0, 6, 0, 1}, {1, 0, 7, 0, 2}, {2, 6, 7, 0, 2}, {0, 0, 7, 2, 2},
        });
    }

    /** Of 5 and 6 for the backbone before of 2 and 3 for area 1. */
    private static void orderOfAreas() {
        Edges.of("Terms", "by AREAS, then by whose it is");
        Run x = new Run().then("link", 5, 7, 0, 1, 1).then("link", 7, 6, 0, 1, 1).then("link", 2, 7, 1, 1, 1)
            .then("link", 7, 3, 1, 1, 1).then("ticks", 2);
        messages(x, new int[][] {
            {1, 6, 5, 0, 1}, {0, 5, 6, 0, 1}, {0, 5, 7, 0, 2}, {1, 6, 7, 0, 2}, {3, 3, 2, 1, 1}, {2, 2, 3, 1, 1}, {2, 2, 7, 1, 2},
            {3, 3, 7, 1, 2},
        });
    }

    private static void messages(Run x, int[][] due) {
        x.due(due.length, "count", 4);
        for (int i = 0; i < due.length; i++) {
            for (int what = 0; what <= 4; what++) {
                x.due(due[i][what], "message", i, what);
            }
        }
        x.due(-12, "message", due.length, 0);
    }

    private static void overWhichLinks() {
        Edges.of("Terms", "over each LINK of that AREA that is up and of which it is an END, by numbers");
        Run x = new Run().then("link", 6, 0, 0, 1, 1).then("link", 0, 2, 1, 1, 1).then("link", 0, 3, 0, 1, 1)
            .then("link", 4, 5, 0, 1, 1).then("link", 0, 1, 0, 1, 1).then("set", 2, 0).then("tick");
        messages(x, new int[][] {
            {0, 6, 0, 0, 1}, {4, 1, 0, 0, 1}, {1, 2, 0, 1, 1}, {4, 0, 1, 0, 1}, {1, 0, 2, 1, 1}, {3, 5, 4, 0, 1}, {3, 4, 5, 0, 1},
            {0, 0, 6, 0, 1},
        });
    }

    private static void notByWhichItCame() {
        Edges.of("Terms", "but those it has COME BY");
        Run x = Scenes.line(0, 0, 2, 1).then("ticks", 2);
        messages(x, new int[][] {{1, 2, 0, 0, 1}, {0, 0, 2, 0, 1}});
        Run two = Scenes.line(0, 0, 1, 1).then("link", 1, 2, 0, 1, 1).then("link", 2, 1, 0, 1, 1).then("ticks", 2);
        messages(two, new int[][] {{1, 2, 0, 0, 1}, {2, 2, 0, 0, 1}, {0, 0, 2, 0, 1}});
    }

    private static void theAgeItHas() {
        Edges.of("Terms", "with the AGE it has there.");
        Run x = Scenes.line(2, 0, 7, 1).then("ticks", 7).leaves(-3, "advert", 7, 0, 2, 0).then("tick");
        for (int router = 0; router < 8; router++) {
            x.due(7, "advert", router, 0, 2, 1).due(1, "advert", router, 0, 2, 0);
        }
    }

    private static void nothingFresh() {
        Edges.of("Terms", "Then nothing is FRESH.");
        Run x = Scenes.line(0, 0, 1, 1).due(2, "tick").due(0, "tick").due(0, "tick");
        x.then("link", 1, 2, 0, 1, 1).due(3, "tick").leaves(-3, "advert", 2, 0, 0, 0);
        x.then("ticks", 4).leaves(-3, "advert", 2, 0, 0, 0).then("ticks", 20).due(2, "advert", 2, 0, 0, 0);
    }

    private static void counted() {
        Edges.of("Terms", "MESSAGES are counted.");
        Run x = Scenes.line(0, 0, 7, 1).due(0, "count", 3);
        int sum = 0;
        for (int i = 1; i <= 9; i++) {
            sum += i <= 8 ? 2 * (8 - i) : 0;
            x.due(i <= 8 ? 2 * (8 - i) : 0, "tick").due(sum, "count", 3);
        }
        x.due(56, "count", 3).due(56, "ticks", 20).due(112, "count", 3);
    }

    private static void ticksTaken() {
        Edges.of("Promise 9", "n TICKS (0 .. 80), truly: how many MESSAGES.");
        Run x = Scenes.line(0, 0, 2, 1).leaves(0, "ticks", 0).due(4, "ticks", 1).due(1, "count", 2);
        x.due(2, "ticks", 2).due(3, "count", 2).due(6 * 4, "ticks", 80).due(83, "count", 2).due(30, "count", 3);
        x.leaves(0, "ticks", 0).due(0, "ticks", 1).due(84, "count", 2);
        Run same = Scenes.busy();
        Run again = same.again();
        int sum = 0;
        for (int i = 0; i < 80; i++) {
            sum += again.ask("tick");
        }
        same.due(sum, "ticks", 80);
        Check.holds("80 TICKS are 80 of one", Reading.ofNet(same).equals(Reading.ofNet(again)));
    }

    private static void ticksRefused() {
        Edges.of("Promise 9", "BAD.");
        int[] none = {-1, 81, 82, -80, Integer.MIN_VALUE, Integer.MAX_VALUE};
        Run x = Scenes.busy();
        for (int n : none) {
            x.leaves(-2, "ticks", n);
        }
        new Run().leaves(-2, "ticks", 81).leaves(-2, "ticks", -1);
    }
}

/** Promises 3, 4 and 5: send, route, hint; and who is GONE when there is no room. */
public final class LettersTest {
    private static final Due DUE = new Due("LettersTest");

    public static void main(String[] args) {
        sendRefuses();
        sendHolds();
        firstAndLastAddress();
        sendGoesOut();
        sendNeedsRoom();
        leastUsedIsGone();
        leastAddressOfSeveralIsGone();
        routeRefuses();
        routeByTheFirstGood();
        routeByTheKeptOne();
        routeInTurn();
        turnGoesOnWithoutTheLast();
        refusedRouteTakesNoTurn();
        hintRefuses();
        hintOfEachState();
        DUE.end();
    }

    /** Five ASKING ones, at 0 to 4: no room. */
    private static StationBook full() {
        StationBook x = new StationBook();
        for (int address = 0; address < 5; address++) {
            x.send(address, 100 + address);
        }
        return x;
    }

    private static void sendRefuses() {
        StationBook x = full();
        int[][] outside = {{-1, 1}, {16, 1}, {0, 0}, {0, 1000}, {0, -5}, {99, 0}, {Integer.MIN_VALUE, 1}, {1, Integer.MAX_VALUE}};
        for (int[] a : outside) {
            DUE.unchanged("send(" + a[0] + ", " + a[1] + ")", x, () -> x.send(a[0], a[1]), -102);
        }
        DUE.unchanged("no room", x, () -> x.send(5, 1), -104);
        DUE.unchanged("outside before full", x, () -> x.send(5, 0), -102);
        x.claim(15);
        DUE.unchanged("trial, before full", x, () -> x.send(15, 1), -103);
        DUE.unchanged("outside before state", x, () -> x.send(15, 1000), -102);
        StationBook y = new StationBook();
        y.claim(15);
        y.pass(10);
        DUE.unchanged("own", y, () -> y.send(15, 1), -103);
        y.give();
        DUE.is("given up", y.send(15, 999), 1);
        DUE.is("the greatest letter", y.held(15, 0), 999);
    }

    private static void sendHolds() {
        StationBook x = new StationBook();
        x.pass(1);
        DUE.is("first", x.send(3, 11), 1);
        DUE.out("asked once", x, 0, 1, 3, 0, 0, 1);
        x.pass(2);
        DUE.is("second", x.send(3, 12), 1);
        DUE.entry("used, not asked again", x, 3, 0, 0, 7, 1, 2, 0, 3, 19);
        DUE.is("third", x.send(3, 13), 1);
        DUE.is("none lost", x.count(4), 0);
        DUE.is("fourth", x.send(3, 14), 2);
        DUE.is("fifth", x.send(3, 15), 2);
        DUE.is("lost", x.count(4), 2);
        DUE.is("held", x.count(3), 3);
        DUE.is("held(3, 0)", x.held(3, 0), 13);
        DUE.is("held(3, 1)", x.held(3, 1), 14);
        DUE.is("held(3, 2)", x.held(3, 2), 15);
        DUE.is("out ever", x.count(6), 2);
        DUE.is("letters out", x.count(5), 0);
        x.send(4, 20);
        DUE.is("the neighbour's", x.held(4, 0), 20);
        DUE.is("held(3, 2)", x.held(3, 2), 15);
    }

    private static void firstAndLastAddress() {
        int[] addresses = {0, 15};
        for (int address : addresses) {
            StationBook x = new StationBook();
            for (int letter = 1; letter <= 7; letter++) {
                DUE.is("send", x.send(address, letter), letter < 4 ? 1 : 2);
            }
            DUE.is("all held", x.count(3), 3);
            DUE.is("held", x.held(address, 0), 5);
            DUE.is("held", x.held(address, 2), 7);
            x.answered(address, 1, false, false, false);
            for (int other = 4; other < 8; other++) {
                x.send(other, 1);
            }
            DUE.is("room", x.send(9, 1), 1);
            DUE.is("gone", x.entry(address, 0), -101);
            DUE.is("five", x.count(0), 5);
        }
    }

    private static void sendGoesOut() {
        StationBook x = new StationBook();
        x.told(3, 44, 0, 0);
        x.pass(1);
        DUE.is("stale", x.send(3, 1), 0);
        DUE.entry("rests", x, 3, 3, 44, 6, 0, 0, 0, 1, 18);
        DUE.out("goes out", x, 0, 0, 3, 44, 1, 1);
        x.pass(1);
        DUE.is("resting", x.send(3, 2), 0);
        DUE.entry("rests on", x, 3, 3, 44, 6, 0, 0, 0, 2, 18);
        x.pass(5);
        DUE.is("trying", x.send(3, 3), 0);
        DUE.entry("is tried on", x, 3, 4, 44, 10, 1, 0, 0, 7, 18);
        x.hint(3);
        x.pass(1);
        DUE.is("fresh", x.send(3, 4), 0);
        DUE.entry("stays fresh", x, 3, 1, 44, 37, 0, 0, 0, 8, -1);
        DUE.out("goes out", x, 0, 0, 3, 44, 4, 8);
        DUE.is("letters out", x.count(5), 4);
        DUE.is("lost", x.count(4), 0);
    }

    private static void sendNeedsRoom() {
        StationBook x = full();
        DUE.is("to one that is there", x.send(4, 9), 1);
        x.answered(2, 22, true, false, false);
        DUE.unchanged("fresh is not stale", x, () -> x.send(5, 1), -104);
        x.answered(2, 23, false, false, false);
        DUE.is("stale", x.entry(2, 0), 2);
        DUE.is("room", x.send(5, 1), 1);
        DUE.is("gone", x.entry(2, 0), -101);
        DUE.is("gone ever", x.count(7), 1);
        DUE.is("five", x.count(0), 5);
        DUE.is("none lost", x.count(4), 0);
    }

    private static void leastUsedIsGone() {
        StationBook x = new StationBook();
        x.told(9, 9, 1, 0);
        x.pass(1);
        x.told(1, 1, 1, 0);
        x.pass(1);
        x.told(2, 2, 1, 0);
        x.told(3, 3, 1, 0);
        x.told(4, 4, 1, 0);
        x.send(9, 90);
        x.hint(9);
        x.pass(30);
        DUE.is("stale again", x.entry(9, 0), 2);
        DUE.is("used", x.entry(9, 6), 2);
        x.send(10, 1);
        DUE.is("1 was used least", x.entry(1, 0), -101);
        x.send(11, 1);
        DUE.is("then the least address", x.entry(2, 0), -101);
        DUE.is("9 stays", x.entry(9, 0), 2);
    }

    private static void leastAddressOfSeveralIsGone() {
        StationBook x = new StationBook();
        for (int address = 12; address > 7; address--) {
            x.told(address, 1, 0, 0);
        }
        x.better(8, 16, 8);
        x.told(1, 1, 0, 0);
        DUE.is("8 is gone", x.entry(8, 0), -101);
        DUE.is("1 is there", x.entry(1, 0), 2);
        x.told(2, 1, 0, 0);
        DUE.is("1 is gone", x.entry(1, 0), -101);
        DUE.is("gone ever", x.count(7), 2);
    }

    private static void routeRefuses() {
        StationBook x = new StationBook();
        DUE.unchanged("no hop", x, () -> x.route(16, 1), -103);
        int[][] outside = {{15, 1}, {48, 1}, {16, 0}, {16, 1000}, {-1, 1}, {0, 0}, {Integer.MAX_VALUE, 1}};
        for (int[] a : outside) {
            DUE.unchanged("route(" + a[0] + ", " + a[1] + ")", x, () -> x.route(a[0], a[1]), -102);
        }
        x.told(4, 1, 200, 0);
        DUE.is("the last goal", x.route(47, 999), 0);
        DUE.is("the first goal", x.route(16, 1), 0);
    }

    private static void routeByTheFirstGood() {
        StationBook x = new StationBook();
        x.told(4, 40, 200, 0);
        x.told(6, 60, 200, 1);
        x.pass(1);
        DUE.is("route", x.route(30, 5), 0);
        DUE.out("by 6", x, 0, 0, 6, 60, 5, 1);
        DUE.entry("6", x, 6, 3, 60, 6, 0, 0, 1, 1, 18);
        DUE.is("not in turn", x.about(5), -1);
    }

    private static void routeByTheKeptOne() {
        StationBook x = new StationBook();
        x.told(4, 40, 200, 0);
        x.better(4, 30, 8);
        DUE.is("held", x.route(30, 1), 1);
        DUE.entry("8", x, 8, 0, 0, 6, 1, 1, 0, 0, 18);
        DUE.is("held", x.route(30, 2), 1);
        DUE.is("held", x.route(30, 3), 1);
        DUE.is("one lost", x.route(30, 4), 2);
        DUE.is("another goal", x.route(31, 5), 0);
        DUE.is("not in turn", x.about(5), -1);
        StationBook y = new StationBook();
        y.told(8, 1, 200, 0);
        y.better(8, 30, 8);
        y.route(30, 1);
        DUE.is("a router that is kept", y.about(5), -1);
    }

    /** ROUTERS 2, 5, 9 (of the greatest RANK), 11 without ENTRIES. */
    private static StationBook doubtful() {
        StationBook x = full();
        x.told(11, 1, 200, 0);
        x.told(9, 1, 200, 1);
        x.told(5, 1, 200, -1);
        x.told(6, 1, 200, -1);
        x.pass(18);
        DUE.is("empty", x.count(0), 0);
        DUE.is("routers", x.count(1), 4);
        return x;
    }

    private static void routeInTurn() {
        StationBook x = doubtful();
        int[] turn = {5, 6, 9, 11, 5, 6};
        for (int address : turn) {
            DUE.is("hop", x.hop(20), address);
            DUE.is("hop takes no turn", x.hop(21), address);
            DUE.is("route", x.route(20, 1), 1);
            DUE.is("taken", x.about(5), address);
            DUE.is("asking", x.entry(address, 0), 0);
        }
        DUE.is("two by 5", x.entry(5, 4), 2);
        x.answered(9, 3, true, false, true);
        DUE.is("a good one", x.hop(20), 9);
        DUE.is("by the good one", x.route(20, 1), 0);
        DUE.is("no turn", x.about(5), 6);
    }

    private static void turnGoesOnWithoutTheLast() {
        StationBook x = doubtful();
        x.route(20, 1);
        x.route(20, 1);
        x.told(6, 1, 0, 0);
        x.told(7, 1, 0, 0);
        DUE.is("6 is no router", x.count(1), 3);
        DUE.is("taken last", x.about(5), 6);
        DUE.is("the next above", x.hop(20), 9);
        x.told(9, 1, 0, 0);
        x.told(11, 1, 0, 0);
        DUE.is("only 5", x.hop(20), 5);
        x.told(5, 1, 0, 0);
        DUE.is("none", x.hop(20), -1);
        DUE.unchanged("route", x, () -> x.route(20, 1), -103);
    }

    private static void refusedRouteTakesNoTurn() {
        StationBook x = full();
        x.told(9, 1, 200, 0);
        DUE.is("doubtful", x.router(0, 3), 0);
        DUE.unchanged("no room", x, () -> x.route(20, 1), -104);
        DUE.is("no turn", x.about(5), -1);
        DUE.unchanged("outside first", x, () -> x.route(20, 0), -102);
    }

    private static void hintRefuses() {
        StationBook x = new StationBook();
        x.send(3, 1);
        DUE.unchanged("hint(-1)", x, () -> x.hint(-1), -102);
        DUE.unchanged("hint(16)", x, () -> x.hint(16), -102);
        DUE.unchanged("without an entry", x, () -> x.hint(4), -1);
        DUE.unchanged("asking", x, () -> x.hint(3), 0);
        x.claim(4);
        DUE.unchanged("trial", x, () -> x.hint(4), -1);
    }

    private static void hintOfEachState() {
        StationBook x = new StationBook();
        x.told(0, 10, 0, 0);
        x.pass(1);
        DUE.is("stale", x.hint(0), 1);
        DUE.entry("fresh", x, 0, 1, 10, 31, 0, 0, 0, 0, -1);
        x.pass(1);
        DUE.is("fresh", x.hint(0), 1);
        DUE.entry("fresh anew", x, 0, 1, 10, 32, 0, 0, 0, 0, -1);
        x.pass(30);
        x.send(0, 1);
        DUE.is("resting", x.hint(0), 1);
        DUE.entry("fresh", x, 0, 1, 10, 62, 0, 0, 0, 32, -1);
        x.pass(30);
        x.send(0, 1);
        x.pass(9);
        DUE.entry("trying", x, 0, 4, 10, 75, 2);
        DUE.is("trying", x.hint(0), 1);
        DUE.entry("fresh", x, 0, 1, 10, 101, 0, 0, 0, 62, -1);
        DUE.is("fresh ones", x.count(8), 1);
    }
}

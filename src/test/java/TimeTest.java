/** Promises 1 and 2: a new object, and what happens, in order, when a TICK passes. */
public final class TimeTest {
    private static final Due DUE = new Due("TimeTest");

    public static void main(String[] args) {
        newObject();
        passRefuses();
        solicits();
        solicitsEndWithARouter();
        aRouterThatWasEndsSolicitsToo();
        lifeZeroMakesNoRouter();
        askingIsGone();
        restingIsTriedAndGone();
        freshBecomesStale();
        staleStays();
        entriesByRisingAddress();
        orderWithinATick();
        routerEndsAtItsTick();
        goneTakesHopsAlong();
        DUE.end();
    }

    private static void newObject() {
        StationBook x = new StationBook();
        for (int i = 0; i < 9; i++) {
            DUE.is("new count(" + i + ")", x.count(i), i == 6 ? 1 : 0);
        }
        int[] about = {0, -1, -1, -1, 0, -1};
        for (int i = 0; i < 6; i++) {
            DUE.is("new about(" + i + ")", x.about(i), about[i]);
        }
        for (int address = 0; address < 16; address++) {
            DUE.is("new entry", x.entry(address, 0), -101);
        }
        DUE.out("new", x, 0, 5, -1, 0, 0, 0);
        DUE.is("new out(1, 0)", x.out(1, 0), -101);
        DUE.is("new router(0, 0)", x.router(0, 0), -101);
        DUE.is("new hop(16)", x.hop(16), -1);
    }

    private static void passRefuses() {
        StationBook x = new StationBook();
        int[] wrong = {0, -1, 61, Integer.MIN_VALUE, Integer.MAX_VALUE};
        for (int n : wrong) {
            DUE.unchanged("pass(" + n + ")", x, () -> x.pass(n), -102);
        }
        DUE.is("pass(1)", x.pass(1), 1);
        DUE.is("pass(60)", x.pass(60), 61);
        DUE.is("about(0)", x.about(0), 61);
    }

    private static void solicits() {
        StationBook x = new StationBook();
        x.pass(3);
        DUE.is("till 3", x.count(6), 1);
        x.pass(1);
        DUE.out("at 4", x, 0, 5, -1, 0, 0, 4);
        x.pass(3);
        DUE.is("till 7", x.count(6), 2);
        x.pass(1);
        DUE.out("at 8", x, 0, 5, -1, 0, 0, 8);
        x.pass(60);
        DUE.is("till 68", x.count(6), 3);
    }

    private static void solicitsEndWithARouter() {
        StationBook x = new StationBook();
        x.pass(4);
        x.told(1, 1, 100, 0);
        x.pass(10);
        DUE.is("solicits", x.count(6), 2);
    }

    private static void aRouterThatWasEndsSolicitsToo() {
        StationBook x = new StationBook();
        x.told(1, 1, 1, 0);
        x.pass(2);
        DUE.is("no router", x.count(1), 0);
        x.pass(10);
        DUE.is("solicits", x.count(6), 1);
    }

    private static void lifeZeroMakesNoRouter() {
        StationBook x = new StationBook();
        x.told(1, 1, 0, 0);
        x.told(1, 1, -1, 0);
        x.pass(10);
        DUE.is("solicits", x.count(6), 3);
    }

    private static void askingIsGone() {
        StationBook x = new StationBook();
        x.told(15, 1, 200, 0);
        x.pass(3);
        x.send(7, 70);
        x.send(7, 71);
        DUE.entry("asking", x, 7, 0, 0, 9, 1, 2, 0, 3, 21);
        x.pass(5);
        DUE.entry("asking", x, 7, 0, 0, 9, 1, 2, 0, 3, 21);
        x.pass(1);
        DUE.entry("asked twice", x, 7, 0, 0, 15, 2, 2, 0, 3, 21);
        DUE.out("asked twice", x, 0, 1, 7, 0, 0, 9);
        x.pass(6);
        DUE.entry("asked three times", x, 7, 0, 0, 21, 3, 2, 0, 3, 21);
        DUE.out("asked three times", x, 0, 1, 7, 0, 0, 15);
        x.pass(5);
        DUE.is("still there", x.count(0), 2);
        DUE.is("lost", x.count(4), 0);
        x.pass(1);
        DUE.is("gone", x.entry(7, 0), -101);
        DUE.is("lost", x.count(4), 2);
        DUE.is("held", x.count(3), 0);
        DUE.is("gone ever", x.count(7), 1);
        DUE.is("out ever", x.count(6), 4);
    }

    private static void restingIsTriedAndGone() {
        StationBook x = new StationBook();
        x.told(7, 33, 200, 0);
        x.pass(2);
        x.send(7, 70);
        DUE.entry("resting", x, 7, 3, 33, 7, 0, 0, 1, 2, 19);
        x.pass(4);
        DUE.is("resting", x.entry(7, 0), 3);
        x.pass(1);
        DUE.entry("tried", x, 7, 4, 33, 11, 1, 0, 1, 2, 19);
        DUE.out("tried", x, 0, 2, 7, 33, 0, 7);
        x.pass(4);
        DUE.entry("tried", x, 7, 4, 33, 15, 2, 0, 1, 2, 19);
        DUE.out("tried", x, 0, 2, 7, 33, 0, 11);
        x.pass(4);
        DUE.entry("tried", x, 7, 4, 33, 19, 3, 0, 1, 2, 19);
        DUE.out("tried", x, 0, 2, 7, 33, 0, 15);
        x.pass(3);
        DUE.is("still there", x.entry(7, 0), 4);
        x.pass(1);
        DUE.is("gone", x.entry(7, 0), -101);
        DUE.is("out ever", x.count(6), 5);
        DUE.is("still a router", x.count(1), 1);
        DUE.router("doubtful", x, 0, 7, 0, 200, 0);
    }

    private static void freshBecomesStale() {
        StationBook x = new StationBook();
        x.told(7, 33, 200, 0);
        x.hint(7);
        DUE.entry("fresh", x, 7, 1, 33, 30, 0, 0, 1, 0, -1);
        x.pass(29);
        DUE.is("fresh", x.entry(7, 0), 1);
        x.pass(1);
        DUE.entry("stale", x, 7, 2, 33, -1, 0, 0, 1, 0, -1);
    }

    private static void staleStays() {
        StationBook x = new StationBook();
        x.told(7, 33, 0, 0);
        for (int i = 0; i < 20; i++) {
            x.pass(60);
        }
        DUE.entry("stale", x, 7, 2, 33, -1, 0, 0, 0, 0, -1);
        DUE.is("clock", x.about(0), 1200);
    }

    private static void entriesByRisingAddress() {
        StationBook x = new StationBook();
        x.told(9, 9, 1, 0);
        x.send(12, 1);
        x.send(3, 2);
        x.pass(1);
        x.send(9, 3);
        x.pass(5);
        DUE.out("9 behind 3", x, 2, 1, 3, 0, 0, 6);
        DUE.out("9 behind 3", x, 1, 2, 9, 9, 0, 6);
        DUE.out("12 behind 9", x, 0, 1, 12, 0, 0, 6);
    }

    private static void orderWithinATick() {
        StationBook x = new StationBook();
        x.pass(2);
        x.send(15, 1);
        x.pass(1);
        x.claim(0);
        x.pass(5);
        DUE.out("the ask", x, 2, 1, 15, 0, 0, 8);
        DUE.out("the trial", x, 1, 4, 0, 0, 0, 8);
        DUE.out("the solicit", x, 0, 5, -1, 0, 0, 8);
    }

    private static void routerEndsAtItsTick() {
        StationBook x = new StationBook();
        x.told(4, 1, 3, 0);
        x.told(2, 1, 3, 0);
        x.told(6, 1, 4, 0);
        x.pass(2);
        DUE.is("before", x.count(1), 3);
        x.pass(1);
        DUE.is("at", x.count(1), 1);
        DUE.is("the other one", x.router(0, 0), 6);
        DUE.is("entries stay", x.count(0), 3);
        x.pass(1);
        DUE.is("none", x.count(1), 0);
    }

    private static void goneTakesHopsAlong() {
        StationBook x = new StationBook();
        x.told(1, 1, 200, 0);
        x.better(1, 16, 8);
        x.better(1, 17, 9);
        x.better(1, 18, 8);
        x.route(18, 5);
        x.pass(17);
        DUE.is("kept", x.count(2), 3);
        x.pass(1);
        DUE.is("kept", x.count(2), 1);
        DUE.is("hop(16)", x.hop(16), 1);
        DUE.is("hop(17)", x.hop(17), 9);
        DUE.is("hop(18)", x.hop(18), 1);
    }
}

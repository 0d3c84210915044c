/** Promises 6 to 9: answered, asks, told, better. */
public final class HeardTest {
    private static final Due DUE = new Due("HeardTest");

    public static void main(String[] args) {
        answeredRefuses();
        answerToAnAskingOne();
        answerWithAnotherMark();
        answerWithTheSameMark();
        answerOver();
        answerOfNoRouter();
        answerOfATrial();
        asksRefuses();
        asksForOwn();
        asksForTrial();
        asksForAnother();
        toldRefuses();
        toldMakesRouters();
        toldIsHeard();
        toldWithoutRoom();
        betterRefuses();
        betterIsKept();
        betterOfAFifthGoal();
        DUE.end();
    }

    /** Entry 1 ASKING, 2 FRESH, 3 STALE, 4 RESTING, 5 TRYING, all with the MARK 50 that have one; the clock is at 5. */
    private static StationBook ofEachState() {
        StationBook x = new StationBook();
        x.told(5, 50, 200, 0);
        x.send(5, 1);
        x.told(2, 50, 200, 0);
        x.pass(5);
        x.told(3, 50, 200, 0);
        x.told(4, 50, 200, 0);
        x.send(4, 2);
        x.hint(2);
        x.send(1, 3);
        for (int i = 1; i < 5; i++) {
            DUE.is("state " + i, x.entry(i, 0), i == 1 ? 0 : i - 1);
        }
        DUE.is("trying", x.entry(5, 0), 4);
        return x;
    }

    private static void answeredRefuses() {
        StationBook x = ofEachState();
        int[][] outside = {{-1, 1}, {16, 1}, {2, 0}, {2, 100}, {2, -1}, {Integer.MIN_VALUE, 1}, {1, Integer.MAX_VALUE}};
        for (int[] a : outside) {
            DUE.unchanged("answered(" + a[0] + ", " + a[1] + ")", x, () -> x.answered(a[0], a[1], true, true, false), -102);
        }
        DUE.unchanged("without an entry", x, () -> x.answered(9, 1, true, true, true), -1);
    }

    private static void answerToAnAskingOne() {
        boolean[] both = {false, true};
        for (boolean over : both) {
            StationBook x = new StationBook();
            x.send(3, 11);
            x.send(3, 12);
            x.pass(7);
            DUE.is("asked", x.answered(3, 99, true, over, true), 1);
            DUE.entry("fresh", x, 3, 1, 99, 37, 0, 0, 0, 0, -1);
            DUE.out("in order", x, 1, 0, 3, 99, 11, 7);
            DUE.out("in order", x, 0, 0, 3, 99, 12, 7);
            DUE.is("letters out", x.count(5), 2);
            DUE.is("none held", x.held(3, 0), -101);
            StationBook y = new StationBook();
            y.send(3, 11);
            y.pass(1);
            DUE.is("not asked", y.answered(3, 1, false, over, true), 2);
            DUE.entry("stale", y, 3, 2, 1, -1, 0, 0, 0, 0, -1);
            DUE.out("out", y, 0, 0, 3, 1, 11, 1);
        }
    }

    private static void answerWithAnotherMark() {
        boolean[] both = {false, true};
        for (boolean asked : both) {
            StationBook x = ofEachState();
            DUE.is("fresh", x.answered(2, 51, asked, false, true), 2);
            DUE.entry("in doubt", x, 2, 2, 50, -1, 0, 0, 1, 0, -1);
            DUE.unchanged("stale", x, () -> x.answered(3, 51, asked, false, true), 2);
            DUE.unchanged("resting", x, () -> x.answered(4, 51, asked, false, true), 3);
            DUE.unchanged("trying", x, () -> x.answered(5, 51, asked, false, true), 4);
        }
    }

    private static void answerWithTheSameMark() {
        boolean[] both = {false, true};
        for (boolean over : both) {
            StationBook x = ofEachState();
            DUE.unchanged("fresh", x, () -> x.answered(2, 50, false, over, true), 1);
            DUE.unchanged("stale", x, () -> x.answered(3, 50, false, over, true), 2);
            DUE.unchanged("resting", x, () -> x.answered(4, 50, false, over, true), 3);
            DUE.unchanged("trying", x, () -> x.answered(5, 50, false, over, true), 4);
            x.pass(1);
            for (int address = 2; address < 6; address++) {
                DUE.is("asked", x.answered(address, 50, true, over, true), 1);
                DUE.entry("fresh", x, address, 1, 50, 36, 0, 0);
            }
        }
    }

    private static void answerOver() {
        StationBook x = ofEachState();
        for (int address = 2; address < 6; address++) {
            DUE.is("over, not asked", x.answered(address, 51, false, true, true), 2);
            DUE.entry("stale", x, address, 2, 51, -1, 0, 0);
        }
        StationBook y = ofEachState();
        for (int address = 2; address < 6; address++) {
            DUE.is("over, asked", y.answered(address, 52, true, true, true), 1);
            DUE.entry("fresh", y, address, 1, 52, 35, 0, 0);
        }
        DUE.is("fresh ones", y.count(8), 4);
    }

    private static void answerOfNoRouter() {
        StationBook x = ofEachState();
        DUE.is("routers", x.count(1), 4);
        x.answered(3, 50, false, false, true);
        DUE.is("still a router", x.entry(3, 5), 1);
        x.answered(3, 50, false, false, false);
        DUE.is("no router", x.entry(3, 5), 0);
        x.answered(2, 77, false, false, false);
        DUE.is("no router, also in doubt", x.entry(2, 5), 0);
        x.answered(1, 77, false, false, true);
        DUE.is("no router is made", x.entry(1, 5), 0);
        DUE.is("routers", x.count(1), 2);
        StationBook y = new StationBook();
        for (int address = 0; address < 5; address++) {
            y.send(address, 1);
        }
        y.told(9, 1, 200, 0);
        DUE.unchanged("a router without an entry stays one", y, () -> y.answered(9, 1, true, true, false), -1);
        DUE.is("routers", y.count(1), 1);
    }

    private static void answerOfATrial() {
        StationBook x = new StationBook();
        x.claim(15);
        DUE.is("another one", x.answered(14, 1, true, true, true), -1);
        DUE.is("still tried", x.about(2), 15);
        DUE.is("it is doubled", x.answered(15, 1, false, false, false), -1);
        DUE.is("no trial", x.about(2), -1);
        DUE.is("no tick", x.about(3), -1);
        DUE.is("doubled", x.about(4), 1 << 15);
        DUE.is("no entry", x.count(0), 0);
        x.pass(20);
        DUE.is("never own", x.about(1), -1);
        DUE.is("goes out no more", x.count(6), 4);
        x.claim(0);
        x.pass(10);
        DUE.unchanged("own is not doubled", x, () -> x.answered(0, 1, true, true, true), -1);
        DUE.is("still own", x.about(1), 0);
    }

    private static StationBook withOwn(int address) {
        StationBook x = new StationBook();
        x.claim(address);
        x.pass(10);
        DUE.is("own", x.about(1), address);
        return x;
    }

    private static void asksRefuses() {
        StationBook x = withOwn(6);
        int[][] outside = {{-2, 1, 6}, {16, 1, 6}, {1, 0, 6}, {1, 100, 6}, {1, 1, -1}, {1, 1, 16}, {-1, 0, 6}, {-1, 1, -1},
            {6, 0, 6}, {6, 1, 16}};
        for (int[] a : outside) {
            DUE.unchanged("asks(" + a[0] + ", " + a[1] + ", " + a[2] + ")", x, () -> x.asks(a[0], a[1], a[2]), -102);
        }
        DUE.unchanged("own asks", x, () -> x.asks(6, 1, 6), -103);
        DUE.unchanged("own asks for another", x, () -> x.asks(6, 1, 7), -103);
        x.give();
        x.claim(5);
        DUE.unchanged("trial asks", x, () -> x.asks(5, 1, 5), -103);
        StationBook y = new StationBook();
        DUE.unchanged("nobody has an address", y, () -> y.asks(-1, 1, 0), 0);
    }

    private static void asksForOwn() {
        StationBook x = withOwn(6);
        x.send(7, 70);
        x.send(7, 71);
        DUE.is("asks", x.asks(7, 50, 6), 1);
        DUE.out("held first", x, 2, 0, 7, 50, 70, 10);
        DUE.out("held first", x, 1, 0, 7, 50, 71, 10);
        DUE.out("then the answer", x, 0, 3, 7, 50, 0, 10);
        DUE.entry("heard", x, 7, 2, 50, -1, 0, 0, 0, 10, -1);
        x.hint(7);
        DUE.is("asks again", x.asks(7, 50, 6), 1);
        DUE.is("still fresh", x.entry(7, 0), 1);
        x.pass(1);
        DUE.is("with another mark", x.asks(7, 51, 6), 1);
        DUE.entry("stale", x, 7, 2, 51, -1, 0, 0, 0, 10, -1);
        DUE.is("a new one", x.asks(0, 99, 6), 1);
        DUE.entry("heard", x, 0, 2, 99, -1, 0, 0, 0, 11, -1);
        DUE.is("one without an address", x.asks(-1, 20, 6), 1);
        DUE.out("to all", x, 0, 3, -1, 0, 0, 11);
        DUE.is("no entry more", x.count(0), 2);
        for (int address = 1; address < 4; address++) {
            x.send(address, 1);
        }
        x.answered(7, 51, true, true, true);
        x.answered(0, 99, true, true, true);
        DUE.is("without room", x.asks(9, 9, 6), 1);
        DUE.is("no entry", x.entry(9, 0), -101);
        DUE.out("answered all the same", x, 0, 3, 9, 9, 0, 11);
    }

    private static void asksForTrial() {
        StationBook x = new StationBook();
        x.claim(6);
        DUE.unchanged("one with an address", x, () -> x.asks(7, 1, 6), 0);
        DUE.is("one without", x.asks(-1, 1, 6), 2);
        DUE.is("doubled", x.about(4), 64);
        DUE.is("no trial", x.about(2), -1);
        x.claim(0);
        DUE.is("another trial", x.asks(-1, 1, 0), 2);
        DUE.is("doubled", x.about(4), 65);
        DUE.is("nothing goes out", x.count(6), 3);
    }

    private static void asksForAnother() {
        StationBook x = withOwn(6);
        DUE.unchanged("another", x, () -> x.asks(7, 1, 8), 0);
        DUE.unchanged("itself", x, () -> x.asks(7, 1, 7), 0);
        DUE.unchanged("by none", x, () -> x.asks(-1, 1, 7), 0);
    }

    private static void toldRefuses() {
        StationBook x = withOwn(6);
        int[][] outside = {{-1, 1, 1, 0}, {16, 1, 1, 0}, {1, 0, 1, 0}, {1, 100, 1, 0}, {1, 1, -1, 0}, {1, 1, 201, 0},
            {1, 1, 1, -2}, {1, 1, 1, 2}, {6, 1, 1, 2}};
        for (int[] a : outside) {
            DUE.unchanged("told(" + a[0] + ", " + a[1] + ", " + a[2] + ", " + a[3] + ")", x,
                () -> x.told(a[0], a[1], a[2], a[3]), -102);
        }
        DUE.unchanged("own", x, () -> x.told(6, 1, 1, 0), -103);
        for (int address = 0; address < 4; address++) {
            x.told(address, 1, 200, 0);
        }
        DUE.unchanged("own before full", x, () -> x.told(6, 1, 1, 0), -103);
        DUE.unchanged("a fifth one", x, () -> x.told(4, 1, 1, 0), -104);
        DUE.is("a fifth one by 0", x.told(4, 1, 0, 0), 4);
        DUE.is("it is heard", x.entry(4, 0), 2);
        DUE.is("one that is one", x.told(3, 1, 1, 1), 4);
        DUE.is("one that is one no more", x.told(3, 1, 0, 1), 3);
        DUE.is("a fifth one", x.told(4, 1, 1, 0), 4);
        StationBook y = new StationBook();
        y.claim(3);
        DUE.unchanged("trial", y, () -> y.told(3, 1, 1, 0), -103);
    }

    private static void toldMakesRouters() {
        StationBook x = new StationBook();
        x.pass(2);
        DUE.is("told", x.told(0, 1, 200, -1), 1);
        DUE.router("told", x, 0, 0, -1, 202, 1);
        x.pass(1);
        DUE.is("told anew", x.told(0, 1, 10, 1), 1);
        DUE.router("told anew", x, 0, 0, 1, 13, 1);
        DUE.is("one no more", x.told(0, 1, 0, 1), 0);
        DUE.is("none", x.router(0, 0), -101);
        DUE.is("none yet", x.told(1, 1, 0, 1), 0);
        x.told(2, 1, 20, 1);
        x.told(3, 1, 30, 0);
        x.told(4, 1, 40, -1);
        DUE.is("the first one no more", x.told(2, 1, 0, 0), 2);
        DUE.router("the others are as they were", x, 0, 3, 0, 33, 1);
        DUE.router("the others are as they were", x, 1, 4, -1, 43, 1);
    }

    private static void toldIsHeard() {
        StationBook x = ofEachState();
        x.told(1, 60, 0, 0);
        DUE.entry("asking", x, 1, 2, 60, -1, 0, 0, 0, 5, -1);
        DUE.out("held goes out", x, 0, 0, 1, 60, 3, 5);
        int[] lives = {0, 0, 195, 200, 200, 195};
        for (int address = 2; address < 6; address++) {
            int told = address;
            DUE.unchanged("the same mark, till the same tick", x, () -> x.told(told, 50, lives[told], 0), 4);
        }
        for (int address = 2; address < 6; address++) {
            x.told(address, 61, 200, 0);
            DUE.entry("another mark", x, address, 2, 61, -1, 0, 0, 1);
        }
    }

    private static void toldWithoutRoom() {
        StationBook x = new StationBook();
        for (int address = 0; address < 5; address++) {
            x.send(address, 1);
        }
        DUE.is("told", x.told(9, 1, 200, 0), 1);
        DUE.is("no entry", x.entry(9, 0), -101);
        DUE.router("doubtful", x, 0, 9, 0, 200, 0);
        DUE.is("none gone", x.count(7), 0);
    }

    private static void betterRefuses() {
        StationBook x = withOwn(6);
        x.told(1, 1, 200, 0);
        int[][] outside = {{-1, 16, 2}, {16, 16, 2}, {1, 15, 2}, {1, 48, 2}, {1, 16, -1}, {1, 16, 16}, {16, 16, 6}};
        for (int[] a : outside) {
            DUE.unchanged("better(" + a[0] + ", " + a[1] + ", " + a[2] + ")", x, () -> x.better(a[0], a[1], a[2]), -102);
        }
        DUE.unchanged("own", x, () -> x.better(1, 16, 6), -103);
        DUE.unchanged("own, by another", x, () -> x.better(2, 16, 6), -103);
        DUE.unchanged("by another", x, () -> x.better(2, 16, 3), 0);
        DUE.unchanged("by own", x, () -> x.better(6, 16, 3), 0);
        x.give();
        x.claim(5);
        DUE.unchanged("trial", x, () -> x.better(1, 16, 5), -103);
        StationBook y = new StationBook();
        DUE.unchanged("no hop", y, () -> y.better(0, 16, 3), 0);
    }

    private static void betterIsKept() {
        StationBook x = new StationBook();
        x.told(1, 1, 200, 0);
        DUE.is("kept", x.better(1, 47, 2), 1);
        DUE.is("hop", x.hop(47), 2);
        DUE.is("another goal", x.hop(46), 1);
        DUE.is("by the router no more", x.better(1, 47, 3), 0);
        DUE.is("by the hop itself", x.better(2, 47, 15), 1);
        DUE.is("hop", x.hop(47), 15);
        DUE.is("itself", x.better(15, 47, 15), 1);
        DUE.is("kept", x.count(2), 1);
        DUE.is("no entry comes", x.count(0), 1);
        x.told(1, 1, 0, 0);
        DUE.is("kept without routers", x.hop(47), 15);
        StationBook y = new StationBook();
        for (int address = 0; address < 5; address++) {
            y.send(address, 1);
        }
        y.told(8, 1, 200, 0);
        y.told(7, 1, 200, 0);
        DUE.is("not the next in turn", y.better(8, 16, 9), 0);
        DUE.is("the next in turn", y.better(7, 16, 9), 1);
        DUE.is("hop", y.hop(16), 9);
        DUE.is("no turn is taken", y.about(5), -1);
    }

    private static void betterOfAFifthGoal() {
        StationBook x = new StationBook();
        x.told(1, 1, 200, 0);
        for (int goal = 20; goal < 24; goal++) {
            DUE.is("kept", x.better(1, goal, goal - 10), 1);
        }
        DUE.is("20 stays where it is", x.better(10, 20, 9), 1);
        DUE.is("four", x.count(2), 4);
        DUE.is("a fifth", x.better(1, 16, 14), 1);
        DUE.is("four", x.count(2), 4);
        DUE.is("20 was the first", x.hop(20), 1);
        DUE.is("21 is kept", x.hop(21), 11);
        DUE.is("a sixth", x.better(1, 17, 15), 1);
        DUE.is("21 was the next", x.hop(21), 1);
        DUE.is("22", x.hop(22), 12);
        DUE.is("23", x.hop(23), 13);
        DUE.is("16", x.hop(16), 14);
        DUE.is("17", x.hop(17), 15);
    }
}

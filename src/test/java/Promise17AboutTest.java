/** The edges of promise 17, about. */
public final class Promise17AboutTest extends Books {
    private static final Due DUE = new Due("Promise17AboutTest");

    public static void main(String[] args) {
        DUE.all(Promise17AboutTest.class);
    }

    static void whatIs0To5() {
        DUE.range("about(n), new", StationBook::new, 0, 5, OUTSIDE, (x, n) -> x.about(n));
        DUE.range("about(n), trial", () -> claimed(15, 9), 0, 5, OUTSIDE, (x, n) -> x.about(n));
        DUE.range("about(n), own", () -> claimed(0, 10), 0, 5, OUTSIDE, (x, n) -> x.about(n));
    }

    private static void about(String what, StationBook x, int... want) {
        for (int i = 0; i < want.length; i++) {
            DUE.is(what + ": about(" + i + ")", x.about(i), want[i]);
        }
    }

    static void trialTill9TicksBehindOwnFrom10On() {
        about("new", new StationBook(), 0, NONE, NONE, NONE, 0, NONE);
        int[] addresses = {0, 15};
        for (int address : addresses) {
            about("0 behind", claimed(address, 0), 0, NONE, address, 10, 0, NONE);
            about("9 behind", claimed(address, 9), 9, NONE, address, 10, 0, NONE);
            about("10 behind", claimed(address, 10), 10, address, NONE, NONE, 0, NONE);
            about("11 behind", claimed(address, 11), 11, address, NONE, NONE, 0, NONE);
        }
    }

    static void doubledAreBitsFrom1To32768() {
        for (int address = 0; address <= 15; address++) {
            StationBook x = claimed(address, 1);
            x.answered(address, 1, true, true, true);
            DUE.is("doubled " + address, x.about(4), 1 << address);
        }
        StationBook y = new StationBook();
        for (int address = 15; address >= 0; address--) {
            y.claim(address);
            y.asks(NONE, 1, address);
        }
        DUE.is("all of them", y.about(4), 65535);
    }

    static void theRouterTakenInTurnLastMayBe0Or15() {
        StationBook x = doubtful(0, 15);
        DUE.is("none", x.about(5), NONE);
        x.route(16, 1);
        DUE.is("the first", x.about(5), 0);
        x.route(16, 1);
        DUE.is("the last", x.about(5), 15);
        x.route(16, 1);
        DUE.is("around", x.about(5), 0);
    }

    static void theClockIsThatOfThePassedTicks() {
        StationBook x = new StationBook();
        x.pass(1);
        x.pass(61);
        x.pass(0);
        x.pass(60);
        DUE.is("about(0)", x.about(0), 61);
    }
}

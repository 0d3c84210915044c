/** The edges of promise 1, a new object; and that an object holds for 512 calls. */
public final class Promise01NewObjectTest extends Books {
    private static final Due DUE = new Due("Promise01NewObjectTest");

    public static void main(String[] args) {
        DUE.all(Promise01NewObjectTest.class);
    }

    static void theClockIsAtTick0AtFirst() {
        StationBook x = new StationBook();
        DUE.is("about(0)", x.about(0), 0);
        DUE.is("pass(1)", x.pass(1), 1);
    }

    static void theBookIsEmpty() {
        StationBook x = new StationBook();
        for (int address = -1; address <= 16; address++) {
            DUE.is("entry", x.entry(address, 0), UNKNOWN);
            DUE.is("held", x.held(address, 0), UNKNOWN);
        }
        int[] counts = {0, 0, 0, 0, 0, 0, 1, 0, 0};
        for (int what = 0; what < counts.length; what++) {
            DUE.is("count(" + what + ")", x.count(what), counts[what]);
        }
    }

    static void oneSolicitGoesOutAndNothingElse() {
        StationBook x = new StationBook();
        DUE.out("the solicit", x, 0, SOLICIT, NONE, 0, 0, 0);
        DUE.is("no second one", x.out(1, 0), UNKNOWN);
        DUE.is("all that went out", x.count(6), 1);
    }

    static void thereIsNoRouterAndNoHop() {
        StationBook x = new StationBook();
        DUE.is("router(0, 0)", x.router(0, 0), UNKNOWN);
        for (int goal = 16; goal <= 47; goal++) {
            DUE.is("hop(" + goal + ")", x.hop(goal), NONE);
        }
    }

    static void thereIsNoOwnNoTrialNothingDoubledNoTurn() {
        StationBook x = new StationBook();
        int[] about = {0, NONE, NONE, NONE, 0, NONE};
        for (int what = 0; what < about.length; what++) {
            DUE.is("about(" + what + ")", x.about(what), about[what]);
        }
    }

    static void twoObjectsShareNothing() {
        StationBook x = new StationBook();
        long before = x.digest();
        StationBook y = oneOfEach();
        y.better(1, 20, 9);
        y.claim(12);
        y.answered(12, 1, true, true, true);
        y.pass(60);
        DUE.is("the first one", x.digest(), before);
        DUE.is("a third one", new StationBook().digest(), before);
    }

    /** "An object is used for at most 512 calls after it has been made": the 512th is answered as any other. */
    static void theLastOf512CallsIsAnswered() {
        StationBook x = new StationBook();
        for (int call = 1; call <= 511; call++) {
            DUE.is("pass(60)", x.pass(60), 60 * call);
        }
        DUE.is("the 512th call", x.pass(60), 30720);
        StationBook y = new StationBook();
        y.told(3, 1, 200, 0);
        for (int letter = 1; letter <= 509; letter++) {
            DUE.is("send", y.send(3, letter), 0);
        }
        DUE.is("the 511th call", y.count(5), 509);
        DUE.is("the 512th call", y.out(9, 3), 500);
    }

    static void allThatOnly512CallsCanSendIsCounted() {
        StationBook x = new StationBook();
        int asks = 0;
        for (int round = 0; round < 80; round++) {
            for (int address = 0; address < 5; address++) {
                DUE.is("send", x.send(address, 1), 1);
            }
            DUE.is("pass", x.pass(18), 18 * (round + 1));
            asks += 15;
        }
        DUE.is("went out, with three solicits", x.count(6), asks + 3);
        DUE.is("gone", x.count(7), 400);
        DUE.is("lost", x.count(4), 400);
    }
}

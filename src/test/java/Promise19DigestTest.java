import java.math.BigInteger;

/** The edges of promise 19, digest: each row of numbers, empty and full, and the wrapping. */
public final class Promise19DigestTest extends Books {
    private static final Due DUE = new Due("Promise19DigestTest");
    private static final BigInteger FACTOR = BigInteger.valueOf(31);

    public static void main(String[] args) {
        DUE.all(Promise19DigestTest.class);
    }

    /** The whole number, without wrapping, from what the other calls tell. */
    private static BigInteger whole(StationBook x) {
        BigInteger h = BigInteger.valueOf(1523);
        for (int what = 0; what <= 5; what++) {
            h = next(h, x.about(what));
        }
        for (int address = 0; address <= 15; address++) {
            if (x.entry(address, 0) == UNKNOWN) {
                h = next(h, NONE);
                continue;
            }
            for (int what = 0; what <= 7; what++) {
                h = next(h, x.entry(address, what));
            }
            for (int place = 0; place < x.entry(address, 4); place++) {
                h = next(h, x.held(address, place));
            }
        }
        for (int place = 0; place < x.count(1); place++) {
            for (int what = 0; what <= 3; what++) {
                h = next(h, x.router(place, what));
            }
        }
        for (int goal = 16; goal <= 19; goal++) {
            h = next(h, x.hop(goal));
        }
        for (int place = 0; place < Math.min(10, x.count(6)); place++) {
            for (int what = 0; what <= 4; what++) {
                h = next(h, x.out(place, what));
            }
        }
        for (int what = 0; what <= 8; what++) {
            h = next(h, x.count(what));
        }
        return h;
    }

    private static BigInteger next(BigInteger h, int number) {
        return h.multiply(FACTOR).add(BigInteger.valueOf(number));
    }

    private static void isAsTold(String what, StationBook x) {
        DUE.is(what, x.digest(), whole(x).longValue());
    }

    static void itWrapsAsLongsDo() {
        BigInteger h = whole(new StationBook());
        DUE.is("the whole number is beyond a long", h.bitLength() > 63 ? 1 : 0, 1);
        DUE.is("its lowest 64 bits", new StationBook().digest(), h.longValue());
    }

    static void ofANewObject() {
        int[] numbers = {0, -1, -1, -1, 0, -1, -1, -1, -1, -1, -1, -1, -1, -1, -1, -1, -1, -1, -1, -1, -1, -1,
            -1, -1, -1, -1, 5, -1, 0, 0, 0, 0, 0, 0, 0, 0, 0, 1, 0, 0};
        long h = 1523L;
        for (int number : numbers) {
            h = 31L * h + number;
        }
        DUE.is("digest()", new StationBook().digest(), h);
    }

    static void ofNoneToFiveEntriesInEachState() {
        for (int state : STATES) {
            for (int many = 0; many <= 5; many++) {
                isAsTold(many + " of state " + state, entries(many, state));
            }
        }
    }

    static void ofTheFirstAndTheLastAddress() {
        StationBook x = new StationBook();
        x.send(15, 999);
        isAsTold("the last", x);
        x.send(0, 1);
        isAsTold("both", x);
    }

    static void ofOneToThreeThatAreHeld() {
        StationBook x = new StationBook();
        for (int letter = 1; letter <= 4; letter++) {
            x.send(3, letter);
            isAsTold(letter + " letters", x);
        }
    }

    static void ofNoneToFourRouters() {
        StationBook x = new StationBook();
        for (int address = 9; address >= 5; address--) {
            isAsTold("good", x);
            x.told(address, 1, 200 - address, address % 3 - 1);
        }
        isAsTold("doubtful", doubtful(3, 5, 7, 9));
    }

    static void ofTheGoals16To19Alone() {
        StationBook x = routers(1);
        long before = x.digest();
        x.better(1, 20, 9);
        DUE.is("20 is told by the count alone", x.digest(), before + 31 * 31 * 31 * 31 * 31 * 31);
        for (int goal = 16; goal <= 19; goal++) {
            x.better(1, goal, goal - 10);
            isAsTold("hop(" + goal + ")", x);
        }
    }

    static void ofOneToTwelveThatWentOut() {
        StationBook x = entries(1, FRESH);
        for (int letter = 1; letter <= 12; letter++) {
            isAsTold(letter + " went out", x);
            x.send(0, letter);
        }
    }

    static void ofTrialOwnDoubledAndTurn() {
        isAsTold("trial", claimed(15, 9));
        isAsTold("own", claimed(15, 10));
        StationBook x = claimed(15, 9);
        x.asks(NONE, 1, 15);
        isAsTold("doubled", x);
        StationBook y = doubtful(3, 5);
        y.route(16, 1);
        isAsTold("turn", y);
    }

    static void itChangesNothing() {
        DUE.nothing("new", StationBook::new, x -> x.digest(), new StationBook().digest());
        DUE.nothing("busy", Books::oneOfEach, x -> x.digest(), oneOfEach().digest());
        DUE.nothing("doubtful", () -> doubtful(3, 5), x -> x.digest(), doubtful(3, 5).digest());
    }
}

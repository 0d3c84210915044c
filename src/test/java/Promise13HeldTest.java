/** The edges of promise 13, held. */
public final class Promise13HeldTest extends Books {
    private static final Due DUE = new Due("Promise13HeldTest");

    public static void main(String[] args) {
        DUE.all(Promise13HeldTest.class);
    }

    private static StationBook holding(int address, int many) {
        StationBook x = new StationBook();
        for (int letter = 1; letter <= many; letter++) {
            x.send(address, letter);
        }
        return x;
    }

    static void placesFrom0ToTheLastThatIsHeldAreKnown() {
        for (int many = 1; many <= 3; many++) {
            int held = many;
            DUE.range(many + " held: held(3, n)", () -> holding(3, held), 0, held - 1, UNKNOWN, (x, n) -> x.held(3, n));
        }
        DUE.range("one was lost: held(3, n)", () -> holding(3, 4), 0, 2, UNKNOWN, (x, n) -> x.held(3, n));
    }

    static void addressesWithoutAnEntryAreUnknown() {
        DUE.range("held(n, 0)", () -> five(ASKING), 0, 4, UNKNOWN, (x, n) -> x.held(n, 0));
        int[] numbers = {-1, 16, Integer.MIN_VALUE, Integer.MAX_VALUE};
        for (int number : numbers) {
            for (int place : numbers) {
                DUE.nothing("held(" + number + ", " + place + ")", () -> five(ASKING), x -> x.held(number, place), UNKNOWN);
            }
        }
    }

    static void theFirstComesFirst() {
        int[] addresses = {0, 15};
        for (int address : addresses) {
            for (int many = 1; many <= 7; many++) {
                StationBook x = holding(address, many);
                int first = Math.max(1, many - 2);
                for (int place = 0; place <= many - first; place++) {
                    DUE.is("held", x.held(address, place), first + place);
                }
            }
        }
    }

    static void neighboursHoldTheirOwn() {
        StationBook x = holding(7, 3);
        x.send(6, 60);
        x.send(8, 80);
        DUE.is("one below", x.held(6, 0), 60);
        DUE.is("one below", x.held(6, 1), UNKNOWN);
        DUE.is("one above", x.held(8, 0), 80);
        for (int place = 0; place < 3; place++) {
            DUE.is("between", x.held(7, place), place + 1);
        }
    }

    static void onlyAnAskingOneHolds() {
        for (int state : WITH_MARK) {
            DUE.nothing("state " + state, () -> entries(1, state), x -> x.held(0, 0), UNKNOWN);
            StationBook y = entries(1, state);
            y.send(0, 9);
            DUE.is("a letter more", y.held(0, 0), UNKNOWN);
        }
    }

    static void whatWentOutIsHeldNoMore() {
        for (int many = 1; many <= 3; many++) {
            StationBook x = holding(3, many);
            x.answered(3, 9, true, false, false);
            DUE.is("answered", x.held(3, 0), UNKNOWN);
            StationBook y = holding(3, many);
            y.told(3, 9, 0, 0);
            DUE.is("heard", y.held(3, 0), UNKNOWN);
        }
    }

    static void whatWasLostIsHeldNoMoreBehindAGoneEntry() {
        StationBook x = holding(3, 3);
        x.pass(17);
        DUE.is("a tick before", x.held(3, 2), 3);
        x.pass(1);
        DUE.is("gone", x.held(3, 0), UNKNOWN);
        x.send(3, 9);
        DUE.is("anew", x.held(3, 0), 9);
        DUE.is("no other one", x.held(3, 1), UNKNOWN);
    }
}

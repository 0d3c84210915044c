/** The edges of promise 15, hop. */
public final class Promise15HopTest extends Books {
    private static final Due DUE = new Due("Promise15HopTest");

    public static void main(String[] args) {
        DUE.all(Promise15HopTest.class);
    }

    static void goalIs16To47() {
        DUE.range("hop(n), none", StationBook::new, 16, 47, OUTSIDE, (x, n) -> x.hop(n));
        DUE.range("hop(n), good", () -> routers(3), 16, 47, OUTSIDE, (x, n) -> x.hop(n));
        DUE.range("hop(n), doubtful", () -> doubtful(3), 16, 47, OUTSIDE, (x, n) -> x.hop(n));
    }

    static void noneWithoutRouters() {
        DUE.nothing("no router", StationBook::new, x -> x.hop(16), NONE);
        DUE.nothing("entries that are no routers", () -> five(FRESH), x -> x.hop(47), NONE);
        StationBook x = new StationBook();
        x.told(3, 1, 1, 0);
        DUE.is("one", x.hop(16), 3);
        x.pass(1);
        DUE.is("one no more", x.hop(16), NONE);
    }

    static void theFirstAndTheLastGoalMayBeKept() {
        StationBook x = routers(3);
        x.better(3, 16, 0);
        x.better(3, 47, 15);
        DUE.is("hop(16)", x.hop(16), 0);
        DUE.is("hop(17)", x.hop(17), 3);
        DUE.is("hop(46)", x.hop(46), 3);
        DUE.is("hop(47)", x.hop(47), 15);
    }

    static void theKeptOneComesBeforeAGoodRouter() {
        StationBook x = kept(1);
        DUE.is("kept", x.hop(20), 14);
        DUE.is("one below", x.hop(19), 1);
        DUE.is("one above", x.hop(21), 1);
    }

    static void theKeptOneComesBeforeTheOneInTurn() {
        StationBook x = doubtful(3, 5);
        x.better(3, 16, 9);
        DUE.is("kept", x.hop(16), 9);
        DUE.is("in turn", x.hop(17), 3);
    }

    static void oneGoodRouterComesBeforeDoubtfulOnesOfGreaterRank() {
        StationBook x = entries(4, ASKING);
        x.told(15, 1, 200, -1);
        x.hint(15);
        x.told(5, 1, 200, 1);
        x.told(14, 1, 200, 1);
        DUE.is("the good one", x.hop(16), 15);
    }

    static void ofGoodRoutersTheFirstInOrder() {
        StationBook x = new StationBook();
        x.told(9, 1, 200, 0);
        x.told(8, 1, 200, 0);
        DUE.is("the lesser address", x.hop(16), 8);
        x.told(15, 1, 200, 1);
        DUE.is("the greater rank", x.hop(16), 15);
    }

    static void ofDoubtfulOnesTheLeastIfNoneWasTaken() {
        DUE.is("0", doubtful(0, 15).hop(16), 0);
        DUE.is("the order of telling is nothing", doubtful(15, 9, 3).hop(16), 3);
    }

    static void ofDoubtfulOnesTheLeastAboveTheOneTakenLast() {
        StationBook x = doubtful(0, 1, 14, 15);
        int[] next = {1, 14, 15, 0, 1};
        for (int address : next) {
            x.route(16, 1);
            DUE.is("the next", x.hop(16), address);
        }
    }

    /** The one taken last is no longer the least above itself; one that is told of between comes next. */
    static void oneToldOfBetweenComesNext() {
        StationBook x = doubtful(3, 9);
        x.route(16, 1);
        for (int address = 10; address < 14; address++) {
            x.send(address, 1);
        }
        x.told(4, 1, 200, 0);
        DUE.is("4 has no entry", x.entry(4, 0), UNKNOWN);
        DUE.is("just above the last", x.hop(16), 4);
        x.told(2, 1, 200, 0);
        DUE.is("one below is not next", x.hop(16), 4);
    }

    static void noneAboveBringsTheLeastAgain() {
        StationBook x = doubtful(3, 9);
        x.route(16, 1);
        x.route(16, 1);
        DUE.is("around", x.hop(16), 3);
        x.told(3, 1, 0, 0);
        DUE.is("the only one, though it was the last", x.hop(16), 9);
    }
}

/** The edges of promise 4, route. */
public final class Promise04RouteTest extends Books {
    private static final Due DUE = new Due("Promise04RouteTest");

    public static void main(String[] args) {
        DUE.all(Promise04RouteTest.class);
    }

    static void goalIs16To47() {
        DUE.range("route(n, 1), good", () -> routers(3), 16, 47, OUTSIDE, (x, n) -> x.route(n, 1));
        DUE.range("route(n, 1), doubtful", () -> doubtful(3, 5), 16, 47, OUTSIDE, (x, n) -> x.route(n, 1));
    }

    static void letterIs1To999() {
        DUE.range("route(16, n), good", () -> routers(3), 1, 999, OUTSIDE, (x, n) -> x.route(16, n));
        DUE.range("route(47, n), doubtful", () -> doubtful(3, 5), 1, 999, OUTSIDE, (x, n) -> x.route(47, n));
        DUE.range("route(20, n), kept", () -> kept(1), 1, 999, OUTSIDE, (x, n) -> x.route(20, n));
    }

    static void withoutAHopItIsRefused() {
        DUE.nothing("no router", StationBook::new, x -> x.route(16, 1), STATE);
        DUE.nothing("no router, though entries", () -> five(STALE), x -> x.route(47, 1), STATE);
        DUE.is("one router", routers(3).route(16, 1), 0);
    }

    static void theLastTickOfTheOnlyRouterIsTheLastOfItsHop() {
        StationBook x = new StationBook();
        x.told(3, 1, 2, 0);
        x.pass(1);
        DUE.is("a tick before", x.route(16, 1), 0);
        x.pass(1);
        DUE.unchanged("at the tick", x, () -> x.route(16, 1), STATE);
    }

    static void aKeptHopNeedsNoRouter() {
        StationBook x = kept(1);
        x.told(1, MARK, 0, 0);
        DUE.is("the goal that is kept", x.route(20, 1), 1);
        DUE.unchanged("another goal", x, () -> x.route(21, 1), STATE);
    }

    static void outsideComesBeforeState() {
        DUE.nothing("letter 0", StationBook::new, x -> x.route(16, 0), OUTSIDE);
        DUE.nothing("letter 1000", StationBook::new, x -> x.route(47, 1000), OUTSIDE);
        DUE.nothing("goal 15", StationBook::new, x -> x.route(15, 1), OUTSIDE);
        DUE.nothing("goal 48", StationBook::new, x -> x.route(48, 1), OUTSIDE);
    }

    static void outsideComesBeforeFull() {
        DUE.nothing("letter 0", () -> crowded(3), x -> x.route(16, 0), OUTSIDE);
        DUE.nothing("letter 1000", () -> crowded(3), x -> x.route(16, 1000), OUTSIDE);
        DUE.nothing("goal 48", () -> crowded(3), x -> x.route(48, 1), OUTSIDE);
    }

    private static StationBook fullWithAKeptHop() {
        StationBook x = kept(1);
        x.hint(1);
        for (int address = 5; address < 9; address++) {
            x.send(address, 1);
        }
        return x;
    }

    static void fullIfTheHopHasNoEntryAndThereIsNoRoom() {
        DUE.nothing("in turn", () -> crowded(3), x -> x.route(16, 1), FULL);
        DUE.nothing("kept", Promise04RouteTest::fullWithAKeptHop, x -> x.route(20, 1), FULL);
        DUE.is("by the good one", fullWithAKeptHop().route(21, 1), 0);
    }

    static void oneStaleOfFiveMakesRoom() {
        StationBook x = crowded(3);
        x.answered(15, 1, false, false, false);
        DUE.is("in turn", x.route(16, 1), 1);
        DUE.is("the stale one", x.entry(15, 0), UNKNOWN);
        DUE.is("the router", x.entry(3, 0), ASKING);
        DUE.is("taken", x.about(5), 3);
    }

    static void aHopThatIsAskedForNeedsNoRoom() {
        StationBook x = doubtful(3);
        x.route(16, 1);
        for (int address = 10; address < 14; address++) {
            x.send(address, 1);
        }
        DUE.is("five", x.count(0), 5);
        DUE.is("held", x.route(16, 2), 1);
        DUE.is("held", x.route(17, 3), 1);
        DUE.is("held, and one lost", x.route(18, 4), 2);
        DUE.is("held(3, 0)", x.held(3, 0), 2);
    }

    static void aRefusedOneTakesNoTurn() {
        StationBook x = crowded(3, 5);
        DUE.is("full", x.route(16, 1), FULL);
        DUE.is("no turn", x.about(5), NONE);
        DUE.is("still the least", x.hop(16), 3);
        StationBook y = doubtful(3, 5);
        y.route(16, 1);
        y.route(16, 0);
        y.route(48, 1);
        DUE.is("the turn stays", y.about(5), 3);
        DUE.is("the next", y.hop(16), 5);
    }

    static void theFirstTurnIsThatOfTheLeastAddress() {
        StationBook x = doubtful(0, 15, 7);
        x.route(16, 1);
        DUE.is("taken", x.about(5), 0);
        StationBook y = doubtful(15, 9);
        y.route(47, 1);
        DUE.is("taken", y.about(5), 9);
    }

    static void theTurnGoesUpAndAroundByAddressNotByRank() {
        StationBook x = crowded();
        x.told(9, 1, 200, 1);
        x.told(0, 1, 200, -1);
        x.told(8, 1, 200, 0);
        x.told(10, 1, 200, 1);
        x.pass(18);
        int[] turn = {0, 8, 9, 10, 0, 8, 9, 10, 0};
        for (int i = 0; i < turn.length; i++) {
            DUE.is("hop", x.hop(16 + i), turn[i]);
            x.route(16 + i, 1);
            DUE.is("taken", x.about(5), turn[i]);
        }
    }

    static void theOnlyOneIsTakenAgainAndAgain() {
        StationBook x = doubtful(15);
        for (int i = 0; i < 3; i++) {
            DUE.is("route", x.route(16, 1), 1);
            DUE.is("taken", x.about(5), 15);
        }
    }

    static void theNextIsAboveTheLastEvenIfThatIsNoRouterAnyMore() {
        StationBook x = doubtful(3, 5, 9);
        x.route(16, 1);
        x.route(16, 2);
        x.told(5, 1, 0, 0);
        x.told(4, 1, 0, 0);
        DUE.is("5 was the last", x.about(5), 5);
        DUE.is("above it", x.hop(16), 9);
        x.told(9, 1, 0, 0);
        DUE.is("none is above", x.hop(16), 3);
        DUE.is("the last stays", x.about(5), 5);
    }

    static void whatIsNotTakenInTurnLeavesTheTurn() {
        StationBook x = routers(3);
        x.route(16, 1);
        DUE.is("a good one", x.about(5), NONE);
        StationBook y = doubtful(3, 5);
        y.better(3, 20, 5);
        y.route(20, 1);
        DUE.is("a doubtful one that is kept", y.about(5), NONE);
        y.route(21, 1);
        DUE.is("in turn", y.about(5), 3);
        y.route(20, 1);
        DUE.is("kept again", y.about(5), 3);
    }

    static void hopAsksForNoTurn() {
        StationBook x = doubtful(3, 5);
        for (int i = 0; i < 3; i++) {
            DUE.is("hop", x.hop(16), 3);
        }
        DUE.is("none taken", x.about(5), NONE);
    }

    static void oneGoodRouterEndsTheTurn() {
        StationBook x = doubtful(3, 5, 9);
        x.route(16, 1);
        x.route(16, 1);
        x.answered(3, 1, false, false, true);
        DUE.is("the good one", x.hop(16), 3);
        DUE.is("goes out", x.route(16, 1), 0);
        DUE.is("the turn stays", x.about(5), 5);
    }

    static void usedIsTheTickOfTheLetter() {
        StationBook x = routers(3);
        x.pass(4);
        x.route(16, 1);
        DUE.entry("good", x, 3, RESTING, MARK, 9, 0, 0, 1, 4, 21);
        StationBook y = doubtful(3);
        y.pass(1);
        y.route(16, 1);
        y.pass(2);
        y.route(16, 2);
        DUE.entry("held", y, 3, ASKING, 0, 25, 1, 2, 1, 21, 37);
    }
}

/** The edges of promise 8, told. */
public final class Promise08ToldTest extends Books {
    private static final Due DUE = new Due("Promise08ToldTest");

    public static void main(String[] args) {
        DUE.all(Promise08ToldTest.class);
    }

    static void addressIs0To15() {
        DUE.range("told(n, 1, 1, 0)", StationBook::new, 0, 15, OUTSIDE, (x, n) -> x.told(n, 1, 1, 0));
        DUE.range("told(n, 1, 0, 0)", Books::oneOfEach, 0, 15, OUTSIDE, (x, n) -> x.told(n, 1, 0, 0));
    }

    static void markIs1To99() {
        DUE.range("told(3, n, 1, 0)", StationBook::new, 1, 99, OUTSIDE, (x, n) -> x.told(3, n, 1, 0));
        DUE.range("told(0, n, 0, 0)", Books::oneOfEach, 1, 99, OUTSIDE, (x, n) -> x.told(0, n, 0, 0));
    }

    static void lifeIs0To200() {
        DUE.range("told(3, 1, n, 0)", StationBook::new, 0, 200, OUTSIDE, (x, n) -> x.told(3, 1, n, 0));
        DUE.range("told(3, 1, n, 0), a router", () -> routers(3), 0, 200, OUTSIDE, (x, n) -> x.told(3, 1, n, 0));
    }

    static void rankIsMinus1To1() {
        DUE.range("told(3, 1, 1, n)", StationBook::new, -1, 1, OUTSIDE, (x, n) -> x.told(3, 1, 1, n));
        DUE.range("told(3, 1, 0, n)", () -> routers(3), -1, 1, OUTSIDE, (x, n) -> x.told(3, 1, 0, n));
    }

    static void trialIsRefusedTill9TicksBehindAndOwnFrom10On() {
        int[] ticks = {0, 9, 10, 11};
        for (int tick : ticks) {
            DUE.nothing("life 1", () -> claimed(6, tick), x -> x.told(6, 1, 1, 0), STATE);
            DUE.nothing("life 0", () -> claimed(6, tick), x -> x.told(6, 1, 0, 0), STATE);
            DUE.is("one below", claimed(6, tick).told(5, 1, 1, 0), 1);
            DUE.is("one above", claimed(6, tick).told(7, 1, 1, 0), 1);
        }
    }

    static void whatIsGivenUpOrDoubledIsNotRefused() {
        StationBook x = claimed(6, 10);
        x.give();
        DUE.is("given up", x.told(6, 1, 1, 0), 1);
        StationBook y = claimed(6, 9);
        y.asks(NONE, 1, 6);
        DUE.is("doubled", y.told(6, 1, 1, 0), 1);
    }

    static void fourAreAtMostAndAFifthIsFull() {
        StationBook x = new StationBook();
        for (int i = 1; i <= 4; i++) {
            DUE.is("told", x.told(i, 1, 200, 0), i);
        }
        DUE.nothing("a fifth", () -> routers(1, 2, 3, 4), y -> y.told(5, 1, 1, 0), FULL);
        DUE.nothing("a fifth, for long", () -> routers(1, 2, 3, 4), y -> y.told(15, 99, 200, 1), FULL);
        DUE.nothing("a fifth, doubtful ones", () -> doubtful(1, 2, 3, 4), y -> y.told(5, 1, 200, 1), FULL);
    }

    private static StationBook fourRoutersAnd(int address) {
        StationBook x = routers(1, 2, 3, 4);
        x.send(address, 7);
        return x;
    }

    static void aFifthThatIsFullIsNotHeard() {
        DUE.nothing("an asking one", () -> fourRoutersAnd(5), x -> x.told(5, 1, 200, 0), FULL);
        DUE.nothing("one without an entry", () -> routers(1, 2, 3, 4), x -> x.told(5, 1, 200, 0), FULL);
        StationBook y = fourRoutersAnd(5);
        y.told(5, 1, 1, 0);
        DUE.is("still held", y.held(5, 0), 7);
    }

    static void aFifthByLife0IsHeardAndIsNone() {
        StationBook x = fourRoutersAnd(5);
        DUE.is("told", x.told(5, 9, 0, 0), 4);
        DUE.entry("heard", x, 5, STALE, 9, NONE, 0, 0, 0, 0, NONE);
        DUE.is("the letter went out", x.count(5), 1);
    }

    static void oneOfFourMayTellAgain() {
        for (int address = 1; address <= 4; address++) {
            StationBook x = routers(1, 2, 3, 4);
            DUE.is("again", x.told(address, MARK, 1, 1), 4);
            DUE.router("the first then", x, 0, address, 1, 1, 1);
        }
    }

    static void oneOfFourThatIsOneNoMoreMakesRoom() {
        StationBook x = routers(1, 2, 3, 4);
        DUE.is("one no more", x.told(2, MARK, 0, 0), 3);
        DUE.is("another one", x.told(5, 1, 1, 0), 4);
        x.pass(1);
        DUE.is("its tick", x.count(1), 3);
        DUE.is("another one", x.told(2, 1, 1, 0), 4);
    }

    static void outsideComesBeforeState() {
        DUE.nothing("mark 0", () -> claimed(6, 9), x -> x.told(6, 0, 1, 0), OUTSIDE);
        DUE.nothing("mark 100", () -> claimed(6, 9), x -> x.told(6, 100, 1, 0), OUTSIDE);
        DUE.nothing("life -1", () -> claimed(6, 10), x -> x.told(6, 1, -1, 0), OUTSIDE);
        DUE.nothing("life 201", () -> claimed(6, 10), x -> x.told(6, 1, 201, 0), OUTSIDE);
        DUE.nothing("rank -2", () -> claimed(6, 10), x -> x.told(6, 1, 1, -2), OUTSIDE);
        DUE.nothing("rank 2", () -> claimed(6, 10), x -> x.told(6, 1, 1, 2), OUTSIDE);
    }

    static void outsideComesBeforeFull() {
        DUE.nothing("address 16", () -> routers(1, 2, 3, 4), x -> x.told(16, 1, 1, 0), OUTSIDE);
        DUE.nothing("mark 100", () -> routers(1, 2, 3, 4), x -> x.told(5, 100, 1, 0), OUTSIDE);
        DUE.nothing("life 201", () -> routers(1, 2, 3, 4), x -> x.told(5, 1, 201, 0), OUTSIDE);
        DUE.nothing("rank 2", () -> routers(1, 2, 3, 4), x -> x.told(5, 1, 1, 2), OUTSIDE);
    }

    private static StationBook fourRoutersAndATrial() {
        StationBook x = routers(1, 2, 3, 4);
        x.claim(6);
        return x;
    }

    static void stateComesBeforeFull() {
        DUE.nothing("the trial", Promise08ToldTest::fourRoutersAndATrial, x -> x.told(6, 1, 1, 0), STATE);
        DUE.nothing("another one", Promise08ToldTest::fourRoutersAndATrial, x -> x.told(7, 1, 1, 0), FULL);
    }

    static void itIsOneForSoManyTicksFromNow() {
        int[] lives = {1, 2, 199, 200};
        for (int life : lives) {
            StationBook x = new StationBook();
            x.pass(20);
            x.told(3, 1, life, 0);
            DUE.is("its tick", x.router(0, 2), 20 + life);
            for (int tick = 1; tick < life; tick++) {
                x.pass(1);
            }
            DUE.is("a tick before", x.count(1), 1);
            x.pass(1);
            DUE.is("at its tick", x.count(1), 0);
        }
    }

    static void toldAgainItIsAsNewAlsoForLess() {
        StationBook x = new StationBook();
        x.told(3, 1, 200, 1);
        x.pass(1);
        DUE.is("again", x.told(3, 1, 1, -1), 1);
        DUE.router("as new", x, 0, 3, -1, 2, 1);
        x.pass(1);
        DUE.is("one no more", x.count(1), 0);
        x.told(3, 1, 1, 0);
        DUE.is("for longer", x.told(3, 1, 2, 0), 1);
        x.pass(1);
        DUE.is("still one", x.count(1), 1);
        x.pass(1);
        DUE.is("one no more", x.count(1), 0);
    }

    static void life0EndsItAtOnce() {
        StationBook x = routers(3, 5);
        DUE.is("told", x.told(3, MARK, 0, 0), 1);
        DUE.is("the other one", x.router(0, 0), 5);
        DUE.is("its entry stays", x.entry(3, 0), STALE);
        DUE.is("told again", x.told(3, MARK, 0, 0), 1);
    }

    static void withoutRoomForItsEntryItIsADoubtfulRouter() {
        for (int state : NOT_STALE) {
            StationBook x = five(state);
            DUE.is("a sixth", x.told(9, 1, 100, 0), 1);
            DUE.is("no entry", x.entry(9, 0), UNKNOWN);
            DUE.is("doubtful", x.router(0, 3), 0);
            DUE.is("none gone", x.count(7), 0);
        }
    }

    static void aFifthEntryComesAndASixthForAStaleOne() {
        StationBook x = entries(4, ASKING);
        x.told(9, 1, 100, 0);
        DUE.is("a fifth", x.entry(9, 0), STALE);
        DUE.is("none gone", x.count(7), 0);
        x.told(8, 2, 100, 0);
        DUE.is("a sixth", x.entry(8, 0), STALE);
        DUE.is("for the stale one", x.entry(9, 0), UNKNOWN);
        DUE.is("that is a router still", x.count(1), 2);
        DUE.router("good first", x, 0, 8, 0, 100, 1);
        DUE.router("then the doubtful one", x, 1, 9, 0, 100, 0);
    }

    static void heardByAnAskingOneItsHeldGoOut() {
        StationBook x = entries(1, ASKING);
        x.told(0, 99, 1, 0);
        DUE.entry("stale", x, 0, STALE, 99, NONE, 0, 0, 1, 0, NONE);
        DUE.out("the letter", x, 0, LETTER, 0, 99, 100, 0);
    }

    static void heardWithTheSameMarkLeavesTheEntry() {
        for (int state : WITH_MARK) {
            DUE.nothing("state " + state, () -> entries(1, state), x -> x.told(0, MARK, 0, 0), 0);
        }
    }

    static void heardWithAnotherMarkItIsStale() {
        for (int state : WITH_MARK) {
            for (int mark = MARK - 1; mark <= MARK + 1; mark += 2) {
                StationBook x = entries(1, state);
                x.pass(1);
                x.told(0, mark, 0, 0);
                DUE.entry("stale", x, 0, STALE, mark, NONE, 0, 0, 0, 0, NONE);
            }
        }
    }
}

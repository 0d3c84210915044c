/** The edges of promise 3, send. */
public final class Promise03SendTest extends Books {
    private static final Due DUE = new Due("Promise03SendTest");

    public static void main(String[] args) {
        DUE.all(Promise03SendTest.class);
    }

    static void addressIs0To15() {
        DUE.range("send(n, 1)", StationBook::new, 0, 15, OUTSIDE, (x, n) -> x.send(n, 1));
        DUE.range("send(n, 1)", () -> entries(4, ASKING), 0, 15, OUTSIDE, (x, n) -> x.send(n, 1));
    }

    static void letterIs1To999() {
        DUE.range("send(3, n), without an entry", StationBook::new, 1, 999, OUTSIDE, (x, n) -> x.send(3, n));
        for (int state : STATES) {
            DUE.range("send(0, n), state " + state, () -> entries(1, state), 1, 999, OUTSIDE, (x, n) -> x.send(0, n));
        }
    }

    static void theFirstAndTheLastLetterAreHeldAsTheyAre() {
        StationBook x = new StationBook();
        x.send(15, 1);
        x.send(15, 999);
        DUE.is("held(15, 0)", x.held(15, 0), 1);
        DUE.is("held(15, 1)", x.held(15, 1), 999);
    }

    static void trialIsRefusedTill9TicksBehindAndOwnFrom10On() {
        int[] ticks = {0, 1, 9, 10, 11};
        for (int tick : ticks) {
            DUE.nothing("send(6, 1), " + tick + " behind", () -> claimed(6, tick), x -> x.send(6, 1), STATE);
            DUE.is("one below", claimed(6, tick).send(5, 1), 1);
            DUE.is("one above", claimed(6, tick).send(7, 1), 1);
        }
        DUE.nothing("the least address", () -> claimed(0, 10), x -> x.send(0, 1), STATE);
        DUE.nothing("the greatest address", () -> claimed(15, 10), x -> x.send(15, 1), STATE);
    }

    static void whatIsGivenUpOrDoubledIsNotRefused() {
        StationBook x = claimed(6, 10);
        x.give();
        DUE.is("given up", x.send(6, 1), 1);
        StationBook y = claimed(6, 9);
        y.answered(6, 1, false, false, false);
        DUE.is("doubled", y.send(6, 1), 1);
    }

    static void fiveOfWhichNoneIsStaleLeaveNoRoom() {
        for (int state : NOT_STALE) {
            DUE.nothing("a sixth, state " + state, () -> five(state), x -> x.send(5, 1), FULL);
            DUE.nothing("a sixth, state " + state, () -> five(state), x -> x.send(15, 999), FULL);
        }
    }

    static void fourLeaveRoomForAFifthAndNobodyIsGone() {
        for (int state : STATES) {
            StationBook x = entries(4, state);
            DUE.is("a fifth, state " + state, x.send(5, 1), 1);
            DUE.is("entries", x.count(0), 5);
            DUE.is("gone", x.count(7), 0);
        }
    }

    static void oneStaleOfFiveMakesRoom() {
        for (int state : NOT_STALE) {
            StationBook x = entries(4, state);
            x.told(9, 1, 0, 0);
            DUE.is("a sixth, state " + state, x.send(5, 1), 1);
            DUE.is("the stale one", x.entry(9, 0), UNKNOWN);
            DUE.is("the new one", x.entry(5, 0), ASKING);
            DUE.is("entries", x.count(0), 5);
            DUE.is("gone", x.count(7), 1);
        }
    }

    static void oneThatHasAnEntryNeedsNoRoom() {
        for (int state : STATES) {
            for (int address = 0; address < 5; address++) {
                StationBook x = five(state);
                DUE.is("state " + state, x.send(address, 1), state == ASKING ? 1 : 0);
                DUE.is("entries", x.count(0), 5);
                DUE.is("gone", x.count(7), 0);
            }
        }
    }

    private static StationBook fullWithATrial() {
        StationBook x = five(ASKING);
        x.claim(15);
        return x;
    }

    static void outsideComesBeforeState() {
        DUE.nothing("letter 0 to a trial", () -> claimed(6, 9), x -> x.send(6, 0), OUTSIDE);
        DUE.nothing("letter 1000 to own", () -> claimed(6, 10), x -> x.send(6, 1000), OUTSIDE);
    }

    static void outsideComesBeforeFull() {
        DUE.nothing("letter 0", () -> five(ASKING), x -> x.send(5, 0), OUTSIDE);
        DUE.nothing("letter 1000", () -> five(ASKING), x -> x.send(5, 1000), OUTSIDE);
        DUE.nothing("address 16", () -> five(ASKING), x -> x.send(16, 1), OUTSIDE);
        DUE.nothing("address -1", () -> five(ASKING), x -> x.send(-1, 1), OUTSIDE);
    }

    static void stateComesBeforeFull() {
        DUE.nothing("to the trial", Promise03SendTest::fullWithATrial, x -> x.send(15, 1), STATE);
        DUE.nothing("to another one", Promise03SendTest::fullWithATrial, x -> x.send(14, 1), FULL);
    }

    static void withoutAnEntryOneComesAskingFor6Ticks() {
        StationBook x = new StationBook();
        x.pass(1);
        DUE.is("send", x.send(3, 7), 1);
        DUE.entry("asking", x, 3, ASKING, 0, 7, 1, 1, 0, 1, 19);
        DUE.out("an ask", x, 0, ASK, 3, 0, 0, 1);
        DUE.is("one went out", x.count(6), 2);
    }

    static void threeAreHeldAndAFourthLosesTheFirst() {
        StationBook x = new StationBook();
        for (int letter = 11; letter <= 13; letter++) {
            DUE.is("held", x.send(3, letter), 1);
            DUE.is("none is lost", x.count(4), 0);
            DUE.is("held", x.entry(3, 4), letter - 10);
        }
        DUE.is("the first one", x.held(3, 0), 11);
        DUE.is("a fourth", x.send(3, 14), 2);
        DUE.is("one is lost", x.count(4), 1);
        DUE.is("three are held", x.entry(3, 4), 3);
        for (int place = 0; place < 3; place++) {
            DUE.is("held(3, " + place + ")", x.held(3, place), 12 + place);
        }
        DUE.is("a fifth", x.send(3, 15), 2);
        DUE.is("two are lost", x.count(4), 2);
        DUE.is("held(3, 0)", x.held(3, 0), 13);
    }

    static void aLetterToAnAskingOneAsksNoMoreAndPutsNoEndOff() {
        StationBook x = entries(1, ASKING);
        x.pass(5);
        x.send(0, 2);
        DUE.entry("used alone is new", x, 0, ASKING, 0, 6, 1, 2, 0, 5, 18);
        DUE.is("no second ask", x.count(6), 3);
        x.pass(1);
        DUE.is("asked for at 6", x.entry(0, 3), 2);
    }

    static void aStaleOneRestsFor5Ticks() {
        StationBook x = entries(1, STALE);
        x.pass(2);
        DUE.is("send", x.send(0, 9), 0);
        DUE.entry("resting", x, 0, RESTING, MARK, 7, 0, 0, 0, 2, 19);
        DUE.out("the letter", x, 0, LETTER, 0, MARK, 9, 2);
    }

    static void aSecondLetterPutsNoEndOff() {
        int[] states = {FRESH, RESTING, TRYING};
        for (int state : states) {
            StationBook x = entries(1, state);
            x.pass(1);
            int end = x.entry(0, 2);
            int tries = x.entry(0, 3);
            DUE.is("send", x.send(0, 9), 0);
            DUE.entry("used alone is new", x, 0, state, MARK, end, tries, 0, 0, x.about(0));
            DUE.out("the letter", x, 0, LETTER, 0, MARK, 9, x.about(0));
        }
    }
}

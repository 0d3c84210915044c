/** The edges of promise 2, pass: how many TICKS, and at which TICK each thing happens, not one earlier or later. */
public final class Promise02PassTest extends Books {
    private static final Due DUE = new Due("Promise02PassTest");

    public static void main(String[] args) {
        DUE.all(Promise02PassTest.class);
    }

    static void nIs1To60() {
        DUE.range("pass(n)", StationBook::new, 1, 60, OUTSIDE, (x, n) -> x.pass(n));
        DUE.range("pass(n) while much is under way", Books::oneOfEach, 1, 60, OUTSIDE, (x, n) -> x.pass(n));
        DUE.range("pass(n) while one is tried", () -> claimed(3, 9), 1, 60, OUTSIDE, (x, n) -> x.pass(n));
    }

    static void itAnswersTheClockThen() {
        StationBook x = new StationBook();
        DUE.is("pass(1)", x.pass(1), 1);
        DUE.is("pass(60)", x.pass(60), 61);
        DUE.is("pass(59)", x.pass(59), 120);
        DUE.is("about(0)", x.about(0), 120);
    }

    static void sixtyAtOnceAreAsSixtyOnes() {
        for (int claimedAt = 0; claimedAt < 8; claimedAt += 3) {
            StationBook x = oneOfEach();
            StationBook y = oneOfEach();
            x.claim(9 + claimedAt);
            y.claim(9 + claimedAt);
            x.pass(60);
            for (int i = 0; i < 60; i++) {
                y.pass(1);
            }
            DUE.is("digest()", x.digest(), y.digest());
        }
    }

    private static void solicitsAt(StationBook x, int tick, int before) {
        x.pass(tick - 1 - x.about(0));
        DUE.is("till " + (tick - 1), x.count(6), before);
        x.pass(1);
        DUE.is("at " + tick, x.count(6), before + 1);
        DUE.out("at " + tick, x, 0, SOLICIT, NONE, 0, 0, tick);
        x.pass(1);
        DUE.is("till " + (tick + 1), x.count(6), before + 1);
    }

    static void aSolicitGoesOutAtTick4() {
        solicitsAt(new StationBook(), 4, 1);
    }

    static void aSolicitGoesOutAtTick8() {
        solicitsAt(new StationBook(), 8, 2);
    }

    static void noSolicitGoesOutBehindTick8() {
        StationBook x = new StationBook();
        x.pass(8);
        for (int tick = 9; tick <= 70; tick++) {
            x.pass(1);
            DUE.is("till " + tick, x.count(6), 3);
        }
    }

    private static int solicitsWithARouterToldAt(int tick, int life) {
        StationBook x = new StationBook();
        if (tick > 0) {
            x.pass(tick);
        }
        x.told(5, 1, life, 0);
        x.pass(20);
        return x.count(6);
    }

    static void aRouterToldBeforeTick4EndsBothSolicits() {
        DUE.is("told at 0", solicitsWithARouterToldAt(0, 200), 1);
        DUE.is("told at 3", solicitsWithARouterToldAt(3, 200), 1);
    }

    static void aRouterToldFromTick4TillTick7EndsTheSolicitOfTick8Alone() {
        DUE.is("told at 4", solicitsWithARouterToldAt(4, 200), 2);
        DUE.is("told at 7", solicitsWithARouterToldAt(7, 200), 2);
    }

    static void aRouterToldAtTick8EndsNone() {
        DUE.is("told at 8", solicitsWithARouterToldAt(8, 200), 3);
    }

    /** "if told() has made no ROUTER till then": one was made, though it is one no more. */
    static void aRouterThatIsOneNoMoreEndsThemToo() {
        DUE.is("one for a tick", solicitsWithARouterToldAt(0, 1), 1);
        DUE.is("one till tick 4", solicitsWithARouterToldAt(0, 4), 1);
        DUE.is("one till tick 8", solicitsWithARouterToldAt(4, 4), 2);
    }

    static void lifeZeroMakesNoRouterSoSolicitsGoOut() {
        DUE.is("life 0 at 0", solicitsWithARouterToldAt(0, 0), 3);
        DUE.is("life 0 at 3", solicitsWithARouterToldAt(3, 0), 3);
    }

    static void aRefusedToldMakesNoRouterSoSolicitsGoOut() {
        DUE.is("life -1", solicitsWithARouterToldAt(0, -1), 3);
        DUE.is("life 201", solicitsWithARouterToldAt(0, 201), 3);
        StationBook x = new StationBook();
        x.claim(5);
        x.told(5, 1, 200, 0);
        x.pass(4);
        DUE.out("behind STATE", x, 0, SOLICIT, NONE, 0, 0, 4);
    }

    static void freshBecomesStale30TicksLater() {
        StationBook x = entries(1, FRESH);
        x.pass(29);
        DUE.entry("at 29", x, 0, FRESH, MARK, 30, 0, 0, 0, 0, NONE);
        x.pass(1);
        DUE.entry("at 30", x, 0, STALE, MARK, NONE, 0, 0, 0, 0, NONE);
        DUE.is("nothing went out for it", x.count(6), 3);
    }

    static void restingIsTried5TicksLater() {
        StationBook x = entries(1, RESTING);
        x.pass(4);
        DUE.entry("at 4", x, 0, RESTING, MARK, 5, 0, 0, 0, 0, 17);
        x.pass(1);
        DUE.entry("at 5", x, 0, TRYING, MARK, 9, 1, 0, 0, 0, 17);
        DUE.out("a probe", x, 0, PROBE, 0, MARK, 0, 5);
    }

    static void tryingIsProbedEach4TicksTillTriesAre3() {
        StationBook x = entries(1, TRYING);
        for (int tries = 1; tries < 3; tries++) {
            int end = 5 + 4 * tries;
            x.pass(3);
            DUE.entry("before", x, 0, TRYING, MARK, end, tries, 0, 0, 0, 17);
            x.pass(1);
            DUE.entry("at its end", x, 0, TRYING, MARK, end + 4, tries + 1, 0, 0, 0, 17);
            DUE.is("a probe", x.count(6), 5 + tries);
        }
        DUE.out("the last probe", x, 0, PROBE, 0, MARK, 0, 13);
    }

    static void tryingIsGone4TicksBehindItsThirdProbe() {
        StationBook x = entries(1, TRYING);
        x.pass(11);
        DUE.is("at 16", x.entry(0, 0), TRYING);
        int before = x.count(6);
        x.pass(1);
        DUE.is("at 17", x.entry(0, 0), UNKNOWN);
        DUE.is("gone", x.count(7), 1);
        DUE.is("no fourth probe", x.count(6), before);
    }

    static void askingIsAskedForEach6TicksTillTriesAre3() {
        StationBook x = entries(1, ASKING);
        for (int tries = 1; tries < 3; tries++) {
            x.pass(5);
            DUE.entry("before", x, 0, ASKING, 0, 6 * tries, tries, 1, 0, 0, 18);
            x.pass(1);
            DUE.entry("at its end", x, 0, ASKING, 0, 6 * tries + 6, tries + 1, 1, 0, 0, 18);
            DUE.out("an ask", x, 0, ASK, 0, 0, 0, 6 * tries);
        }
    }

    static void askingIsGone6TicksBehindItsThirdAsk() {
        StationBook x = entries(1, ASKING);
        x.pass(17);
        DUE.is("at 17", x.entry(0, 0), ASKING);
        DUE.is("still held", x.count(3), 1);
        int before = x.count(6);
        x.pass(1);
        DUE.is("at 18", x.entry(0, 0), UNKNOWN);
        DUE.is("gone", x.count(7), 1);
        DUE.is("lost", x.count(4), 1);
        DUE.is("no fourth ask", x.count(6), before);
    }

    static void staleHasNoEnd() {
        StationBook x = entries(5, STALE);
        for (int i = 0; i < 100; i++) {
            x.pass(60);
        }
        DUE.is("entries", x.count(0), 5);
        DUE.entry("stale", x, 0, STALE, MARK, NONE, 0, 0, 0, 0, NONE);
    }

    static void anEndThatWasPutOffDoesNotHappen() {
        StationBook x = entries(1, FRESH);
        x.pass(29);
        x.hint(0);
        x.pass(1);
        DUE.is("fresh at 30", x.entry(0, 0), FRESH);
        x.pass(28);
        DUE.is("fresh at 58", x.entry(0, 0), FRESH);
        x.pass(1);
        DUE.is("stale at 59", x.entry(0, 0), STALE);
    }

    static void entriesComeByRisingAddress() {
        StationBook x = new StationBook();
        int[] addresses = {15, 0, 8, 7, 1};
        for (int address : addresses) {
            x.send(address, 1);
        }
        x.pass(6);
        int[] rising = {0, 1, 7, 8, 15};
        for (int i = 0; i < 5; i++) {
            DUE.out("asked for", x, 4 - i, ASK, rising[i], 0, 0, 6);
        }
    }

    static void theRouterWhoseTickItIsIsOneNoMore() {
        int[] lives = {1, 2, 59, 60, 199, 200};
        for (int life : lives) {
            StationBook x = new StationBook();
            x.told(3, 1, life, 0);
            for (int tick = 1; tick < life; tick++) {
                x.pass(1);
            }
            DUE.is("before " + life, x.count(1), 1);
            x.pass(1);
            DUE.is("at " + life, x.count(1), 0);
            DUE.is("its entry stays", x.entry(3, 0), STALE);
        }
    }

    static void allFourRoutersWhoseTickItIsEndTogether() {
        StationBook x = new StationBook();
        for (int address = 0; address < 4; address++) {
            x.told(address, 1, 7, 0);
        }
        x.pass(6);
        DUE.is("before", x.count(1), 4);
        x.pass(1);
        DUE.is("at their tick", x.count(1), 0);
    }

    static void routersOfOtherTicksStay() {
        StationBook x = new StationBook();
        int[] lives = {8, 7, 6, 7};
        for (int address = 0; address < 4; address++) {
            x.told(address, 1, lives[address], 0);
        }
        x.pass(6);
        DUE.is("at 6", x.count(1), 3);
        x.pass(1);
        DUE.is("at 7", x.count(1), 1);
        DUE.router("the last one", x, 0, 0, 0, 8, 1);
        x.pass(1);
        DUE.is("at 8", x.count(1), 0);
    }

    static void aTrialGoesOutOnceMore5TicksBehindItsBeginning() {
        StationBook x = new StationBook();
        x.pass(20);
        x.claim(3);
        int before = x.count(6);
        x.pass(4);
        DUE.is("4 behind", x.count(6), before);
        x.pass(1);
        DUE.out("5 behind", x, 0, TRIAL, 3, 0, 0, 25);
        DUE.is("5 behind", x.count(6), before + 1);
        x.pass(35);
        DUE.is("never again", x.count(6), before + 1);
    }

    static void aTrialIsOwn10TicksBehindItsBeginning() {
        StationBook x = new StationBook();
        x.pass(20);
        x.claim(3);
        x.pass(9);
        DUE.is("9 behind: own", x.about(1), NONE);
        DUE.is("9 behind: trial", x.about(2), 3);
        x.pass(1);
        DUE.is("10 behind: own", x.about(1), 3);
        DUE.is("10 behind: trial", x.about(2), NONE);
        DUE.is("10 behind: tick", x.about(3), NONE);
        x.pass(60);
        DUE.is("it stays", x.about(1), 3);
    }

    static void withinATickEntriesThenTheTrialThenTheSolicit() {
        StationBook x = new StationBook();
        x.pass(2);
        x.send(15, 1);
        x.pass(1);
        x.claim(0);
        x.pass(5);
        DUE.out("the ask", x, 2, ASK, 15, 0, 0, 8);
        DUE.out("the trial", x, 1, TRIAL, 0, 0, 0, 8);
        DUE.out("the solicit", x, 0, SOLICIT, NONE, 0, 0, 8);
    }
}

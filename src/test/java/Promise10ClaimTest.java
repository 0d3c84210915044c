/** The edges of promise 10, claim. */
public final class Promise10ClaimTest extends Books {
    private static final Due DUE = new Due("Promise10ClaimTest");

    public static void main(String[] args) {
        DUE.all(Promise10ClaimTest.class);
    }

    static void addressIs0To15() {
        DUE.range("claim(n)", StationBook::new, 0, 15, OUTSIDE, (x, n) -> x.claim(n));
    }

    static void itAnswersTheTickAtWhichItWouldBeOwn() {
        StationBook x = new StationBook();
        x.pass(7);
        DUE.is("claim", x.claim(15), 17);
        DUE.is("about(3)", x.about(3), 17);
        DUE.out("the trial", x, 0, TRIAL, 15, 0, 0, 7);
        x.pass(9);
        DUE.is("a tick before", x.about(1), NONE);
        x.pass(1);
        DUE.is("at that tick", x.about(1), 15);
    }

    static void whileThereIsATrialOrOwnItIsRefused() {
        int[] ticks = {0, 9, 10, 11};
        for (int tick : ticks) {
            DUE.nothing("the same", () -> claimed(6, tick), x -> x.claim(6), STATE);
            DUE.nothing("another", () -> claimed(6, tick), x -> x.claim(7), STATE);
        }
    }

    private static StationBook doubled(int address) {
        StationBook x = claimed(address, 3);
        x.answered(address, 1, false, false, false);
        return x;
    }

    static void whatIsDoubledIsRefusedForEver() {
        int[] addresses = {0, 7, 15};
        for (int address : addresses) {
            DUE.nothing("doubled", () -> doubled(address), x -> x.claim(address), STATE);
            StationBook x = doubled(address);
            for (int i = 0; i < 50; i++) {
                x.pass(60);
            }
            DUE.unchanged("much later", x, () -> x.claim(address), STATE);
            DUE.is("one below or above", x.claim(address == 0 ? 1 : address - 1), 3013);
        }
    }

    static void whatHasAnEntryIsRefused() {
        for (int state : STATES) {
            DUE.nothing("the first, state " + state, () -> five(state), x -> x.claim(0), STATE);
            DUE.nothing("the last, state " + state, () -> five(state), x -> x.claim(4), STATE);
            DUE.is("one above", five(state).claim(5), five(state).about(0) + 10);
        }
    }

    static void whatIsADoubtfulRouterIsRefused() {
        DUE.nothing("the least", () -> crowded(3, 5), x -> x.claim(3), STATE);
        DUE.nothing("the greatest", () -> doubtful(3, 5), x -> x.claim(5), STATE);
        DUE.is("between them", doubtful(3, 5).claim(4), 28);
    }

    static void whatIsAKeptHopIsRefused() {
        DUE.nothing("of one goal", () -> kept(1), x -> x.claim(14), STATE);
        DUE.nothing("of four goals", () -> kept(4), x -> x.claim(14), STATE);
        DUE.is("one below", kept(4).claim(13), 10);
        DUE.is("one above", kept(4).claim(15), 10);
    }

    static void whatWasAKeptHopIsNotRefused() {
        StationBook x = kept(1);
        x.better(14, 20, 13);
        DUE.is("told better", x.claim(14), 10);
        StationBook y = kept(1);
        for (int goal = 30; goal < 34; goal++) {
            y.better(1, goal, 13);
        }
        DUE.is("of the goal kept first", y.claim(14), 10);
    }

    static void whatHadAnEntryIsRefusedTillThatIsGone() {
        StationBook x = entries(1, ASKING);
        x.pass(17);
        DUE.unchanged("a tick before", x, () -> x.claim(0), STATE);
        x.pass(1);
        DUE.is("gone", x.claim(0), 28);
    }

    static void whatWasARouterIsRefusedTillItsTick() {
        StationBook x = five(ASKING);
        x.told(9, 1, 3, 0);
        x.pass(2);
        DUE.unchanged("a tick before", x, () -> x.claim(9), STATE);
        x.pass(1);
        DUE.is("at its tick", x.claim(9), 13);
    }

    static void outsideComesBeforeState() {
        DUE.nothing("-1, a trial", () -> claimed(6, 9), x -> x.claim(-1), OUTSIDE);
        DUE.nothing("16, a trial", () -> claimed(6, 9), x -> x.claim(16), OUTSIDE);
        DUE.nothing("-1, own", () -> claimed(6, 10), x -> x.claim(-1), OUTSIDE);
        DUE.nothing("16, own", () -> claimed(6, 10), x -> x.claim(16), OUTSIDE);
    }

    static void whatWasGivenUpMayBeTriedAgainFromTheBeginning() {
        StationBook x = claimed(6, 4);
        x.give();
        DUE.is("claim", x.claim(6), 14);
        x.pass(1);
        DUE.is("the old second one does not go out", x.out(0, 4), 4);
        x.pass(4);
        DUE.out("the new second one does", x, 0, TRIAL, 6, 0, 0, 9);
        x.pass(4);
        DUE.is("at 13", x.about(1), NONE);
        x.pass(1);
        DUE.is("at 14", x.about(1), 6);
    }

    static void itNeedsNoRoom() {
        StationBook x = five(ASKING);
        DUE.is("claim", x.claim(9), 10);
        DUE.is("entries", x.count(0), 5);
    }
}

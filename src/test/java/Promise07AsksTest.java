/** The edges of promise 7, asks. */
public final class Promise07AsksTest extends Books {
    private static final Due DUE = new Due("Promise07AsksTest");

    public static void main(String[] args) {
        DUE.all(Promise07AsksTest.class);
    }

    static void addressIsNoneOr0To15() {
        DUE.range("asks(n, 1, 6), nobody has it", StationBook::new, NONE, 15, OUTSIDE, (x, n) -> x.asks(n, 1, 6));
        DUE.range("asks(n, 1, 6), own", () -> claimed(6, 10), NONE, 15, OUTSIDE, (x, n) -> x.asks(n, 1, 6));
        DUE.range("asks(n, 1, 6), trial", () -> claimed(6, 9), NONE, 15, OUTSIDE, (x, n) -> x.asks(n, 1, 6));
    }

    static void markIs1To99() {
        DUE.range("asks(3, n, 6), own", () -> claimed(6, 10), 1, 99, OUTSIDE, (x, n) -> x.asks(3, n, 6));
        DUE.range("asks(NONE, n, 6), own", () -> claimed(6, 10), 1, 99, OUTSIDE, (x, n) -> x.asks(NONE, n, 6));
        DUE.range("asks(NONE, n, 6), trial", () -> claimed(6, 9), 1, 99, OUTSIDE, (x, n) -> x.asks(NONE, n, 6));
        DUE.range("asks(3, n, 4), nobody", StationBook::new, 1, 99, OUTSIDE, (x, n) -> x.asks(3, n, 4));
    }

    /** NONE as a target is outside, also where there is neither OWN nor TRIAL, each told as NONE. */
    static void targetIs0To15() {
        DUE.range("asks(3, 1, n), nobody", StationBook::new, 0, 15, OUTSIDE, (x, n) -> x.asks(3, 1, n));
        DUE.range("asks(NONE, 1, n), nobody", StationBook::new, 0, 15, OUTSIDE, (x, n) -> x.asks(NONE, 1, n));
        DUE.range("asks(3, 1, n), own", () -> claimed(6, 10), 0, 15, OUTSIDE, (x, n) -> x.asks(3, 1, n));
        DUE.range("asks(NONE, 1, n), trial", () -> claimed(6, 9), 0, 15, OUTSIDE, (x, n) -> x.asks(NONE, 1, n));
    }

    static void trialAndOwnAreNoAskers() {
        int[] ticks = {0, 9, 10, 11};
        for (int tick : ticks) {
            DUE.nothing("asks for itself", () -> claimed(6, tick), x -> x.asks(6, 1, 6), STATE);
            DUE.nothing("asks for another", () -> claimed(6, tick), x -> x.asks(6, 99, 15), STATE);
            DUE.is("one below", claimed(6, tick).asks(5, 1, 15), 0);
            DUE.is("one above", claimed(6, tick).asks(7, 1, 15), 0);
        }
    }

    static void noneIsNeverOwnOrTrial() {
        DUE.nothing("no own, no trial", StationBook::new, x -> x.asks(NONE, 1, 0), 0);
        DUE.nothing("no own", () -> claimed(6, 9), x -> x.asks(NONE, 1, 7), 0);
        DUE.nothing("no trial", () -> claimed(6, 10), x -> x.asks(NONE, 1, 7), 0);
    }

    static void outsideComesBeforeState() {
        DUE.nothing("mark 0", () -> claimed(6, 9), x -> x.asks(6, 0, 6), OUTSIDE);
        DUE.nothing("mark 100", () -> claimed(6, 10), x -> x.asks(6, 100, 6), OUTSIDE);
        DUE.nothing("target -1", () -> claimed(6, 10), x -> x.asks(6, 1, -1), OUTSIDE);
        DUE.nothing("target 16", () -> claimed(6, 10), x -> x.asks(6, 1, 16), OUTSIDE);
    }

    static void onlyOwnIsAnsweredFor() {
        StationBook x = claimed(6, 10);
        DUE.is("own", x.asks(3, 9, 6), 1);
        DUE.out("the answer", x, 0, ANSWER, 3, 9, 0, 10);
        DUE.nothing("one below own", () -> claimed(6, 10), y -> y.asks(3, 9, 5), 0);
        DUE.nothing("one above own", () -> claimed(6, 10), y -> y.asks(3, 9, 7), 0);
        DUE.nothing("itself", () -> claimed(6, 10), y -> y.asks(3, 9, 3), 0);
    }

    static void oneThatHasNoAddressIsAnsweredToAll() {
        StationBook x = claimed(6, 10);
        DUE.is("own", x.asks(NONE, 99, 6), 1);
        DUE.out("to all", x, 0, ANSWER, NONE, 0, 0, 10);
        DUE.is("no entry comes", x.count(0), 0);
    }

    static void theAskerIsHeardFirst() {
        StationBook x = claimed(15, 10);
        for (int letter = 1; letter <= 3; letter++) {
            x.send(0, letter);
        }
        DUE.is("asks", x.asks(0, 99, 15), 1);
        for (int letter = 1; letter <= 3; letter++) {
            DUE.out("held first", x, 4 - letter, LETTER, 0, 99, letter, 10);
        }
        DUE.out("then the answer", x, 0, ANSWER, 0, 99, 0, 10);
        DUE.entry("stale", x, 0, STALE, 99, NONE, 0, 0, 0, 10, NONE);
    }

    private static StationBook ownAnd(int many, int state) {
        StationBook x = entries(many, state);
        x.claim(15);
        x.pass(10);
        return x;
    }

    static void anAskerWithoutRoomIsAnsweredButHasNoEntry() {
        StationBook x = ownAnd(5, ASKING);
        DUE.is("a sixth", x.asks(7, 9, 15), 1);
        DUE.is("no entry", x.entry(7, 0), UNKNOWN);
        DUE.is("none gone", x.count(7), 0);
        DUE.out("the answer", x, 0, ANSWER, 7, 9, 0, 10);
        StationBook y = ownAnd(4, ASKING);
        y.asks(7, 9, 15);
        DUE.is("a fifth", y.entry(7, 0), STALE);
        StationBook z = ownAnd(5, STALE);
        z.asks(7, 9, 15);
        DUE.is("a sixth, for a stale one", z.entry(7, 0), STALE);
        DUE.is("the least one is gone", z.entry(0, 0), UNKNOWN);
        DUE.is("one gone", z.count(7), 1);
    }

    static void heardWithTheSameMarkChangesNothingButAnswers() {
        StationBook x = ownAnd(1, FRESH);
        DUE.is("asks", x.asks(0, MARK, 15), 1);
        DUE.entry("still fresh", x, 0, FRESH, MARK, 30, 0, 0, 0, 0, NONE);
        DUE.is("asks", x.asks(0, MARK + 1, 15), 1);
        DUE.entry("another mark", x, 0, STALE, MARK + 1, NONE, 0, 0, 0, 0, NONE);
    }

    static void aTrialIsDoubledByOneWithoutAnAddressTill9TicksBehind() {
        int[] ticks = {0, 1, 9};
        for (int tick : ticks) {
            StationBook x = claimed(15, tick);
            int before = x.count(6);
            DUE.is("asks", x.asks(NONE, 1, 15), 2);
            DUE.is("doubled", x.about(4), 32768);
            DUE.is("no trial", x.about(2), NONE);
            DUE.is("nothing goes out", x.count(6), before);
            x.pass(10);
            DUE.is("never own", x.about(1), NONE);
        }
        StationBook y = claimed(15, 10);
        DUE.is("10 behind it is own", y.asks(NONE, 1, 15), 1);
        DUE.is("not doubled", y.about(4), 0);
    }

    static void aTrialIsNotDoubledByOneWithAnAddress() {
        DUE.nothing("0 asks", () -> claimed(15, 0), x -> x.asks(0, 1, 15), 0);
        DUE.nothing("14 asks", () -> claimed(15, 9), x -> x.asks(14, 1, 15), 0);
    }

    static void anotherTargetDoublesNoTrial() {
        DUE.nothing("one below", () -> claimed(6, 9), x -> x.asks(NONE, 1, 5), 0);
        DUE.nothing("one above", () -> claimed(6, 9), x -> x.asks(NONE, 1, 7), 0);
    }

    static void whoAsksForAnotherIsNotHeard() {
        DUE.nothing("asking", () -> entries(1, ASKING), x -> x.asks(0, 9, 1), 0);
        DUE.nothing("fresh", () -> entries(1, FRESH), x -> x.asks(0, 9, 1), 0);
        DUE.nothing("no entry", StationBook::new, x -> x.asks(0, 9, 1), 0);
    }
}

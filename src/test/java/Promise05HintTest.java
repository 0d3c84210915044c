/** The edges of promise 5, hint. */
public final class Promise05HintTest extends Books {
    private static final Due DUE = new Due("Promise05HintTest");

    public static void main(String[] args) {
        DUE.all(Promise05HintTest.class);
    }

    static void addressIs0To15() {
        DUE.range("hint(n), no entry", StationBook::new, 0, 15, OUTSIDE, (x, n) -> x.hint(n));
        DUE.range("hint(n), entries", Books::oneOfEach, 0, 15, OUTSIDE, (x, n) -> x.hint(n));
    }

    static void withoutAnEntryNothingHappens() {
        DUE.nothing("an empty book", StationBook::new, x -> x.hint(0), NONE);
        DUE.nothing("one above the last entry", Books::oneOfEach, x -> x.hint(5), NONE);
        DUE.nothing("a doubtful router", () -> doubtful(3), x -> x.hint(3), NONE);
        DUE.nothing("a trial", () -> claimed(3, 9), x -> x.hint(3), NONE);
        DUE.nothing("own", () -> claimed(3, 10), x -> x.hint(3), NONE);
    }

    static void toAnAskingOneNothingHappens() {
        DUE.nothing("asking", () -> five(ASKING), x -> x.hint(4), ASKING);
        DUE.nothing("asking", Books::oneOfEach, x -> x.hint(0), ASKING);
    }

    static void anyOtherOneIsFreshFor30TicksFromNow() {
        for (int state : WITH_MARK) {
            StationBook x = entries(1, state);
            x.pass(1);
            int now = x.about(0);
            DUE.is("state " + state, x.hint(0), FRESH);
            DUE.entry("fresh", x, 0, FRESH, MARK, now + 30, 0, 0, 0, 0, NONE);
            x.pass(29);
            DUE.is("29 ticks later", x.entry(0, 0), FRESH);
            x.pass(1);
            DUE.is("30 ticks later", x.entry(0, 0), STALE);
        }
    }

    static void theLastTickOfTryingIsNotTooLate() {
        StationBook x = entries(1, TRYING);
        x.pass(11);
        DUE.entry("gone at the next", x, 0, TRYING, MARK, 17, 3, 0, 0, 0, 17);
        DUE.is("hint", x.hint(0), FRESH);
        x.pass(1);
        DUE.is("still there", x.entry(0, 0), FRESH);
        StationBook y = entries(1, TRYING);
        y.pass(12);
        DUE.unchanged("a tick later", y, () -> y.hint(0), NONE);
    }

    static void nothingGoesOutAndUsedStays() {
        StationBook x = entries(1, STALE);
        x.pass(2);
        x.hint(0);
        DUE.is("out", x.count(6), 1);
        DUE.is("used", x.entry(0, 6), 0);
    }
}

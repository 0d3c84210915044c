/** The edges of promise 6, answered. */
public final class Promise06AnsweredTest extends Books {
    private static final Due DUE = new Due("Promise06AnsweredTest");
    private static final boolean[] BOTH = {false, true};

    public static void main(String[] args) {
        DUE.all(Promise06AnsweredTest.class);
    }

    static void addressIs0To15() {
        DUE.range("answered(n, 1)", StationBook::new, 0, 15, OUTSIDE, (x, n) -> x.answered(n, 1, true, true, false));
        DUE.range("answered(n, 1)", Books::oneOfEach, 0, 15, OUTSIDE, (x, n) -> x.answered(n, 1, true, true, false));
    }

    static void markIs1To99() {
        for (int address = 0; address < 6; address++) {
            int to = address;
            DUE.range("answered(" + to + ", n)", Books::oneOfEach, 1, 99, OUTSIDE,
                (x, n) -> x.answered(to, n, true, true, false));
        }
    }

    static void aMarkThatIsOutsideDoublesNoTrial() {
        DUE.range("answered(3, n)", () -> claimed(3, 9), 1, 99, OUTSIDE, (x, n) -> x.answered(3, n, false, false, false));
    }

    static void theFirstAndTheLastMarkAreTaken() {
        int[] marks = {1, 2, 98, 99};
        for (int mark : marks) {
            StationBook x = entries(1, ASKING);
            x.answered(0, mark, true, false, false);
            DUE.is("mark", x.entry(0, 1), mark);
            DUE.out("the letter", x, 0, LETTER, 0, mark, 100, 0);
        }
    }

    static void withoutAnEntryNothingHappens() {
        for (boolean router : BOTH) {
            DUE.nothing("an empty book", StationBook::new, x -> x.answered(0, 1, true, true, router), NONE);
            DUE.nothing("one above the last", Books::oneOfEach, x -> x.answered(5, 1, true, true, router), NONE);
        }
    }

    static void aTrialIsDoubledTill9TicksBehind() {
        int[] ticks = {0, 1, 9};
        for (int tick : ticks) {
            StationBook x = claimed(15, tick);
            DUE.is("answered", x.answered(15, 1, false, false, false), NONE);
            DUE.is("doubled", x.about(4), 32768);
            DUE.is("no trial", x.about(2), NONE);
            DUE.is("no tick", x.about(3), NONE);
            DUE.is("no entry", x.count(0), 0);
            x.pass(10);
            DUE.is("never own", x.about(1), NONE);
        }
    }

    static void ownFrom10TicksBehindIsNotDoubled() {
        DUE.nothing("10 behind", () -> claimed(15, 10), x -> x.answered(15, 1, true, true, true), NONE);
        DUE.nothing("11 behind", () -> claimed(0, 11), x -> x.answered(0, 1, true, true, false), NONE);
    }

    static void anotherAddressDoublesNoTrial() {
        DUE.nothing("one below", () -> claimed(3, 5), x -> x.answered(2, 1, true, true, true), NONE);
        DUE.nothing("one above", () -> claimed(3, 5), x -> x.answered(4, 1, true, true, true), NONE);
    }

    static void whatWasGivenUpIsNotDoubled() {
        StationBook x = claimed(3, 5);
        x.give();
        DUE.unchanged("answered", x, () -> x.answered(3, 1, true, true, true), NONE);
    }

    static void allDoubledAreKept() {
        StationBook x = new StationBook();
        for (int address = 0; address <= 15; address++) {
            x.claim(address);
            x.answered(address, 1, false, false, false);
            DUE.is("doubled", x.about(4), (1 << (address + 1)) - 1);
        }
    }

    static void anAskingOneThatWasAskedIsFreshFor30Ticks() {
        StationBook x = entries(1, ASKING);
        x.pass(17);
        DUE.is("at the last tick", x.answered(0, 9, true, false, false), FRESH);
        DUE.entry("fresh", x, 0, FRESH, 9, 47, 0, 0, 0, 0, NONE);
        x.pass(29);
        DUE.is("29 ticks later", x.entry(0, 0), FRESH);
        x.pass(1);
        DUE.is("30 ticks later", x.entry(0, 0), STALE);
        StationBook y = entries(1, ASKING);
        y.pass(18);
        DUE.unchanged("a tick too late", y, () -> y.answered(0, 9, true, false, false), NONE);
    }

    static void anAskingOneThatWasNotAskedIsStale() {
        StationBook x = entries(1, ASKING);
        x.pass(6);
        DUE.is("answered", x.answered(0, 9, false, true, false), STALE);
        DUE.entry("stale", x, 0, STALE, 9, NONE, 0, 0, 0, 0, NONE);
    }

    static void oneTwoOrThreeThatAreHeldGoOutInOrder() {
        for (int many = 1; many <= 4; many++) {
            for (boolean asked : BOTH) {
                StationBook x = new StationBook();
                for (int letter = 1; letter <= many; letter++) {
                    x.send(7, 10 + letter);
                }
                x.pass(1);
                int before = x.count(6);
                x.answered(7, 9, asked, false, false);
                int held = Math.min(many, 3);
                DUE.is("went out", x.count(6), before + held);
                DUE.is("letters", x.count(5), held);
                DUE.is("none is held", x.entry(7, 4), 0);
                for (int place = 0; place < held; place++) {
                    DUE.out("in order", x, place, LETTER, 7, 9, 10 + many - place, 1);
                }
                DUE.is("lost", x.count(4), many - held);
            }
        }
    }

    static void anotherMarkNotOverPutsAFreshOneInDoubt() {
        for (boolean asked : BOTH) {
            StationBook x = entries(1, FRESH);
            DUE.is("one less", x.answered(0, MARK - 1, asked, false, false), STALE);
            DUE.entry("stale, the mark stays", x, 0, STALE, MARK, NONE, 0, 0, 0, 0, NONE);
            StationBook y = entries(1, FRESH);
            DUE.is("one more", y.answered(0, MARK + 1, asked, false, false), STALE);
            DUE.entry("stale, the mark stays", y, 0, STALE, MARK, NONE, 0, 0, 0, 0, NONE);
        }
    }

    static void anotherMarkNotOverLeavesAnyOtherOne() {
        int[] states = {STALE, RESTING, TRYING};
        for (int state : states) {
            for (boolean asked : BOTH) {
                DUE.nothing("state " + state, () -> entries(1, state), x -> x.answered(0, MARK + 1, asked, false, false), state);
                DUE.nothing("state " + state, () -> entries(1, state), x -> x.answered(0, MARK - 1, asked, false, true), state);
            }
        }
    }

    static void theSameMarkOrOverIfItWasAskedIsFreshFor30Ticks() {
        for (int state : WITH_MARK) {
            for (boolean over : BOTH) {
                StationBook x = entries(1, state);
                x.pass(1);
                DUE.is("the same mark", x.answered(0, MARK, true, over, false), FRESH);
                DUE.entry("fresh", x, 0, FRESH, MARK, x.about(0) + 30, 0, 0, 0, 0, NONE);
            }
            StationBook y = entries(1, state);
            y.pass(1);
            DUE.is("over", y.answered(0, MARK + 1, true, true, false), FRESH);
            DUE.entry("fresh", y, 0, FRESH, MARK + 1, y.about(0) + 30, 0, 0, 0, 0, NONE);
        }
    }

    static void theSameMarkNotAskedChangesNothing() {
        for (int state : WITH_MARK) {
            for (boolean over : BOTH) {
                DUE.nothing("state " + state, () -> entries(1, state), x -> x.answered(0, MARK, false, over, true), state);
            }
        }
    }

    static void anotherMarkOverNotAskedIsTakenAndStale() {
        for (int state : WITH_MARK) {
            StationBook x = entries(1, state);
            DUE.is("state " + state, x.answered(0, MARK + 1, false, true, true), STALE);
            DUE.entry("stale", x, 0, STALE, MARK + 1, NONE, 0, 0, 0, 0, NONE);
        }
    }

    static void itIsNoRouterAnyMoreWhateverTheStateOfItsEntry() {
        for (int address = 1; address < 5; address++) {
            for (int mark = MARK; mark <= MARK + 1; mark++) {
                StationBook x = oneOfEach();
                x.answered(address, mark, false, false, true);
                DUE.is("a router says so", x.entry(address, 5), 1);
                x.answered(address, mark, false, false, false);
                DUE.is("no router says so", x.entry(address, 5), 0);
                DUE.is("the others stay", x.count(1), 3);
            }
        }
        StationBook y = doubtful(3, 5);
        y.route(16, 1);
        y.answered(3, 9, true, false, false);
        DUE.is("one that was asked for", y.entry(3, 5), 0);
        DUE.is("the other stays", y.router(0, 0), 5);
    }

    static void aRouterWithoutAnEntryStaysOne() {
        DUE.nothing("no entry", () -> crowded(3, 5), x -> x.answered(3, 1, true, true, false), NONE);
        DUE.nothing("no entry", () -> doubtful(3), x -> x.answered(3, 1, false, false, false), NONE);
    }

    static void anAnswerMakesNoRouter() {
        for (int state : STATES) {
            StationBook x = entries(1, state);
            x.answered(0, MARK, true, true, true);
            DUE.is("state " + state, x.count(1), 0);
        }
    }

    static void anAnswerTakesNoRoom() {
        for (int state : STATES) {
            DUE.nothing("a sixth, state " + state, () -> five(state), x -> x.answered(5, 1, true, true, true), NONE);
            DUE.nothing("a fifth, state " + state, () -> entries(4, state), x -> x.answered(5, 1, true, true, true), NONE);
        }
    }

    static void usedStays() {
        StationBook x = entries(1, ASKING);
        x.pass(2);
        x.answered(0, 9, true, true, true);
        DUE.is("used", x.entry(0, 6), 0);
    }
}

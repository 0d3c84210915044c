/** The edges of promise 12, entry. */
public final class Promise12EntryTest extends Books {
    private static final Due DUE = new Due("Promise12EntryTest");

    public static void main(String[] args) {
        DUE.all(Promise12EntryTest.class);
    }

    static void addressesWithoutAnEntryAreUnknown() {
        DUE.range("entry(n, 0)", Books::oneOfEach, 0, 4, UNKNOWN, (x, n) -> x.entry(n, 0));
        DUE.range("entry(n, 7)", Books::oneOfEach, 0, 4, UNKNOWN, (x, n) -> x.entry(n, 7));
    }

    static void numbersThatAreNoAddressesAreUnknownToo() {
        int[] numbers = {-1, 16, Integer.MIN_VALUE, Integer.MAX_VALUE};
        for (int number : numbers) {
            DUE.nothing("entry(" + number + ", 0)", Books::oneOfEach, x -> x.entry(number, 0), UNKNOWN);
        }
    }

    static void whatIs0To7() {
        for (int address = 0; address < 5; address++) {
            int of = address;
            DUE.range("entry(" + of + ", n)", Books::oneOfEach, 0, 7, OUTSIDE, (x, n) -> x.entry(of, n));
        }
    }

    static void unknownComesBeforeOutside() {
        int[] numbers = {-1, 8, Integer.MIN_VALUE, Integer.MAX_VALUE};
        for (int what : numbers) {
            DUE.nothing("no entry, " + what, Books::oneOfEach, x -> x.entry(5, what), UNKNOWN);
            DUE.nothing("no address, " + what, Books::oneOfEach, x -> x.entry(16, what), UNKNOWN);
            DUE.nothing("none, " + what, Books::oneOfEach, x -> x.entry(-1, what), UNKNOWN);
        }
    }

    static void ownTrialAndADoubtfulRouterAreUnknown() {
        DUE.nothing("a trial", () -> claimed(3, 9), x -> x.entry(3, 0), UNKNOWN);
        DUE.nothing("own", () -> claimed(3, 10), x -> x.entry(3, 0), UNKNOWN);
        DUE.nothing("a doubtful router", () -> doubtful(3), x -> x.entry(3, 5), UNKNOWN);
        DUE.nothing("a kept hop", () -> kept(1), x -> x.entry(14, 0), UNKNOWN);
    }

    static void allIsToldOfEachState() {
        StationBook x = oneOfEach();
        DUE.entry("asking", x, 0, ASKING, 0, 11, 1, 1, 0, 5, 23);
        DUE.entry("fresh", x, 1, FRESH, MARK, 35, 0, 0, 1, 5, NONE);
        DUE.entry("stale", x, 2, STALE, MARK, NONE, 0, 0, 1, 5, NONE);
        DUE.entry("resting", x, 3, RESTING, MARK, 10, 0, 0, 1, 5, 22);
        DUE.entry("trying", x, 4, TRYING, MARK, 9, 1, 0, 1, 0, 17);
    }

    static void theFirstAndTheLastAddressHaveEntries() {
        int[] addresses = {0, 15};
        for (int address : addresses) {
            StationBook x = new StationBook();
            x.told(address, 99, 1, 0);
            DUE.entry("stale", x, address, STALE, 99, NONE, 0, 0, 1, 0, NONE);
            x.pass(1);
            DUE.is("no router any more", x.entry(address, 5), 0);
        }
    }

    /** "7 the TICK at which it would be GONE, if only time passed": it stays true till that TICK, and then it is GONE. */
    static void itIsGoneAtTheTickThatIsToldAndNotBefore() {
        int[] states = {ASKING, RESTING, TRYING};
        int[] due = {18, 17, 17};
        for (int i = 0; i < states.length; i++) {
            StationBook x = entries(1, states[i]);
            while (x.about(0) < due[i]) {
                DUE.is("state " + states[i], x.entry(0, 7), due[i]);
                x.pass(1);
            }
            DUE.is("gone", x.entry(0, 7), UNKNOWN);
            DUE.is("gone", x.count(7), 1);
        }
    }

    static void freshAndStaleAreNeverGone() {
        StationBook x = entries(1, FRESH);
        for (int tick = 0; tick <= 31; tick++) {
            DUE.is("entry(0, 7)", x.entry(0, 7), NONE);
            x.pass(1);
        }
    }

    static void heldAre0To3() {
        StationBook x = new StationBook();
        for (int many = 1; many <= 4; many++) {
            x.send(3, many);
            DUE.is("held", x.entry(3, 4), Math.min(many, 3));
        }
        x.answered(3, 1, true, false, false);
        DUE.is("none", x.entry(3, 4), 0);
    }

    static void usedIsTheTickItCameOrALetterWasTold() {
        StationBook x = new StationBook();
        x.pass(1);
        x.send(3, 1);
        DUE.is("it came", x.entry(3, 6), 1);
        x.pass(1);
        x.send(3, 2);
        DUE.is("a letter that is held", x.entry(3, 6), 2);
        x.pass(1);
        x.answered(3, 9, false, false, false);
        DUE.is("not when it goes out", x.entry(3, 6), 2);
        x.hint(3);
        DUE.is("not by a hint", x.entry(3, 6), 2);
        x.told(3, 8, 9, 0);
        DUE.is("not by being heard", x.entry(3, 6), 2);
        x.pass(1);
        x.route(16, 3);
        DUE.is("a letter by route()", x.entry(3, 6), 4);
        x.pass(5);
        DUE.is("not by a probe", x.entry(3, 6), 4);
    }

    static void triesAre0ByFreshStaleAndResting() {
        StationBook x = entries(1, TRYING);
        DUE.is("trying", x.entry(0, 3), 1);
        x.hint(0);
        DUE.is("fresh", x.entry(0, 3), 0);
        x.pass(30);
        DUE.is("stale", x.entry(0, 3), 0);
        x.send(0, 1);
        DUE.is("resting", x.entry(0, 3), 0);
        x.pass(5);
        DUE.is("trying, counted anew", x.entry(0, 3), 1);
        x.pass(4);
        DUE.is("trying", x.entry(0, 3), 2);
        x.told(0, MARK + 1, 0, 0);
        DUE.is("stale", x.entry(0, 3), 0);
    }
}

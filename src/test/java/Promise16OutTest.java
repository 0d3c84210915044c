/** The edges of promise 16, out. */
public final class Promise16OutTest extends Books {
    private static final Due DUE = new Due("Promise16OutTest");

    public static void main(String[] args) {
        DUE.all(Promise16OutTest.class);
    }

    /** So many went out: the SOLICIT, and LETTERS 1, 2, and so on. */
    private static StationBook sent(int many) {
        StationBook x = new StationBook();
        x.told(3, MARK, 200, 0);
        for (int letter = 1; letter < many; letter++) {
            x.send(3, letter);
        }
        return x;
    }

    static void placesAreKnownTillThereWereNotSoMany() {
        for (int many = 1; many <= 10; many++) {
            int last = many;
            DUE.range(many + " went out: out(n, 0)", () -> sent(last), 0, last - 1, UNKNOWN, (x, n) -> x.out(n, 0));
        }
    }

    static void tenAreKeptAtMost() {
        for (int many = 11; many <= 13; many++) {
            int last = many;
            DUE.range(many + " went out: out(n, 0)", () -> sent(last), 0, 9, UNKNOWN, (x, n) -> x.out(n, 0));
        }
    }

    static void whatIs0To4() {
        DUE.range("out(0, n)", StationBook::new, 0, 4, OUTSIDE, (x, n) -> x.out(0, n));
        DUE.range("out(9, n)", () -> sent(11), 0, 4, OUTSIDE, (x, n) -> x.out(9, n));
    }

    static void unknownComesBeforeOutside() {
        int[] numbers = {-1, 5, Integer.MIN_VALUE, Integer.MAX_VALUE};
        for (int what : numbers) {
            DUE.nothing("place 1, " + what, StationBook::new, x -> x.out(1, what), UNKNOWN);
            DUE.nothing("place -1, " + what, StationBook::new, x -> x.out(-1, what), UNKNOWN);
            DUE.nothing("place 10, " + what, () -> sent(11), x -> x.out(10, what), UNKNOWN);
        }
    }

    static void theEleventhDrivesOutTheFirstAlone() {
        StationBook x = sent(10);
        DUE.out("the first of ten", x, 9, SOLICIT, NONE, 0, 0, 0);
        DUE.out("the second of ten", x, 8, LETTER, 3, MARK, 1, 0);
        x.send(3, 999);
        DUE.out("the latest of eleven", x, 0, LETTER, 3, MARK, 999, 0);
        DUE.out("the one before", x, 1, LETTER, 3, MARK, 9, 0);
        DUE.out("the tenth", x, 9, LETTER, 3, MARK, 1, 0);
        DUE.is("the first", x.out(10, 0), UNKNOWN);
    }

    static void theLatestTenStayInOrderHoweverManyWentOut() {
        for (int many = 11; many <= 45; many++) {
            StationBook x = sent(many);
            for (int place = 0; place < 10; place++) {
                DUE.out(many + " went out", x, place, LETTER, 3, MARK, many - 1 - place, 0);
            }
        }
    }

    static void whatASortHasNotIs0() {
        StationBook x = new StationBook();
        DUE.out("solicit", x, 0, SOLICIT, NONE, 0, 0, 0);
        x.claim(15);
        DUE.out("trial", x, 0, TRIAL, 15, 0, 0, 0);
        x.pass(10);
        x.asks(NONE, 99, 15);
        DUE.out("answer to all", x, 0, ANSWER, NONE, 0, 0, 10);
        x.asks(0, 99, 15);
        DUE.out("answer", x, 0, ANSWER, 0, 99, 0, 10);
        x.send(1, 999);
        DUE.out("ask", x, 0, ASK, 1, 0, 0, 10);
        x.send(0, 999);
        DUE.out("letter", x, 0, LETTER, 0, 99, 999, 10);
        x.pass(5);
        DUE.out("probe", x, 0, PROBE, 0, 99, 0, 15);
        x.pass(1);
        DUE.out("a second ask", x, 0, ASK, 1, 0, 0, 16);
    }

    static void aLetterIsToldWithTheMarkOfItsTime() {
        StationBook x = entries(1, FRESH);
        x.send(0, 1);
        x.answered(0, 99, true, true, false);
        x.send(0, 2);
        DUE.out("the first", x, 1, LETTER, 0, MARK, 1, 0);
        DUE.out("the second", x, 0, LETTER, 0, 99, 2, 0);
    }
}

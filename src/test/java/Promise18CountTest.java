/** The edges of promise 18, count. */
public final class Promise18CountTest extends Books {
    private static final Due DUE = new Due("Promise18CountTest");

    public static void main(String[] args) {
        DUE.all(Promise18CountTest.class);
    }

    static void whatIs0To8() {
        DUE.range("count(n), new", StationBook::new, 0, 8, OUTSIDE, (x, n) -> x.count(n));
        DUE.range("count(n), busy", Books::oneOfEach, 0, 8, OUTSIDE, (x, n) -> x.count(n));
    }

    static void entriesAre0To5() {
        StationBook x = new StationBook();
        for (int address = 0; address < 7; address++) {
            DUE.is("count(0)", x.count(0), Math.min(address, 5));
            x.told(address, 1, 0, 0);
        }
        StationBook y = new StationBook();
        for (int address = 0; address < 7; address++) {
            y.send(address, 1);
            y.send(address, 2);
        }
        DUE.is("no two of one address", y.count(0), 5);
    }

    static void routersAre0To4() {
        StationBook x = new StationBook();
        for (int address = 0; address < 6; address++) {
            DUE.is("count(1)", x.count(1), Math.min(address, 4));
            x.told(address, 1, 9, 0);
            x.told(address, 1, 9, 0);
        }
        x.pass(8);
        DUE.is("a tick before", x.count(1), 4);
        x.pass(1);
        DUE.is("none", x.count(1), 0);
    }

    static void keptHopsAre0To4() {
        for (int many = 0; many <= 6; many++) {
            DUE.is("count(2)", kept(many).count(2), Math.min(many, 4));
        }
    }

    static void heldAre0To15() {
        StationBook x = new StationBook();
        for (int address = 0; address < 5; address++) {
            for (int letter = 1; letter <= 4; letter++) {
                x.send(address, letter);
                DUE.is("count(3)", x.count(3), 3 * address + Math.min(letter, 3));
            }
        }
        DUE.is("full", x.send(5, 1), FULL);
        DUE.is("a refused one is not held", x.count(3), 15);
        DUE.is("nor lost", x.count(4), 5);
        x.answered(2, 1, true, false, false);
        DUE.is("three went out", x.count(3), 12);
        x.pass(18);
        DUE.is("all are gone", x.count(3), 0);
    }

    static void lostAreThoseOfGoneOnesAndTheFourth() {
        for (int many = 1; many <= 5; many++) {
            StationBook x = new StationBook();
            for (int letter = 1; letter <= many; letter++) {
                x.send(3, letter);
            }
            DUE.is("behind a fourth", x.count(4), Math.max(0, many - 3));
            x.pass(17);
            DUE.is("a tick before", x.count(4), Math.max(0, many - 3));
            x.pass(1);
            DUE.is("gone", x.count(4), many);
        }
        StationBook y = entries(1, TRYING);
        y.pass(12);
        DUE.is("a letter that went out is not lost", y.count(4), 0);
    }

    static void lettersOutAreCountedWhenTheyGoOut() {
        StationBook x = entries(1, ASKING);
        x.send(0, 2);
        DUE.is("held", x.count(5), 0);
        x.answered(0, 1, true, false, false);
        DUE.is("both went out", x.count(5), 2);
        x.send(0, 3);
        DUE.is("a third", x.count(5), 3);
        DUE.is("with a solicit and an ask", x.count(6), 5);
    }

    static void allThatWentOutIsCountedBeyondTheTenThatAreKept() {
        StationBook x = entries(1, FRESH);
        for (int many = 2; many <= 25; many++) {
            x.send(0, many);
            DUE.is("count(6)", x.count(6), many);
            DUE.is("count(5)", x.count(5), many - 1);
        }
    }

    static void goneAreThoseOfAllThreeWays() {
        StationBook x = five(STALE);
        x.send(9, 1);
        DUE.is("for want of room", x.count(7), 1);
        x.send(4, 1);
        x.pass(16);
        DUE.is("a tick before", x.count(7), 1);
        x.pass(1);
        DUE.is("tried in vain", x.count(7), 2);
        x.pass(1);
        DUE.is("asked for in vain", x.count(7), 3);
        DUE.is("three are left", x.count(0), 3);
    }

    static void freshAre0To5() {
        StationBook x = five(STALE);
        for (int address = 0; address < 5; address++) {
            DUE.is("count(8)", x.count(8), address);
            x.hint(address);
        }
        DUE.is("five", x.count(8), 5);
        x.pass(29);
        DUE.is("29 ticks later", x.count(8), 5);
        x.pass(1);
        DUE.is("30 ticks later", x.count(8), 0);
        DUE.is("of each state one", oneOfEach().count(8), 1);
    }
}

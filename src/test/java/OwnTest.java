/** Promises 10 and 11: claim, give. */
public final class OwnTest {
    private static final Due DUE = new Due("OwnTest");

    public static void main(String[] args) {
        claimRefusesNumbers();
        claimBecomesOwn();
        claimWhileThereIsOne();
        claimOfDoubled();
        claimOfKnownAddresses();
        giveRefuses();
        giveOfATrial();
        giveOfOwn();
        DUE.end();
    }

    private static void claimRefusesNumbers() {
        StationBook x = new StationBook();
        int[] wrong = {-1, 16, Integer.MIN_VALUE, Integer.MAX_VALUE};
        for (int address : wrong) {
            DUE.unchanged("claim(" + address + ")", x, () -> x.claim(address), -102);
        }
        x.claim(0);
        DUE.unchanged("outside before state", x, () -> x.claim(16), -102);
    }

    private static void claimBecomesOwn() {
        StationBook x = new StationBook();
        x.told(1, 1, 1, 1);
        x.pass(20);
        DUE.is("claim", x.claim(15), 30);
        DUE.out("trial", x, 0, 4, 15, 0, 0, 20);
        DUE.is("no own", x.about(1), -1);
        DUE.is("trial", x.about(2), 15);
        DUE.is("tick", x.about(3), 30);
        x.pass(4);
        DUE.is("out ever", x.count(6), 2);
        x.pass(1);
        DUE.out("trial", x, 0, 4, 15, 0, 0, 25);
        x.pass(4);
        DUE.is("no own yet", x.about(1), -1);
        x.pass(1);
        DUE.is("own", x.about(1), 15);
        DUE.is("no trial", x.about(2), -1);
        DUE.is("no tick", x.about(3), -1);
        x.pass(30);
        DUE.is("out ever", x.count(6), 3);
        DUE.is("not doubled", x.about(4), 0);
    }

    private static void claimWhileThereIsOne() {
        StationBook x = new StationBook();
        x.claim(3);
        DUE.unchanged("the same trial", x, () -> x.claim(3), -103);
        DUE.unchanged("another trial", x, () -> x.claim(4), -103);
        x.pass(10);
        DUE.unchanged("own", x, () -> x.claim(3), -103);
        DUE.unchanged("another one", x, () -> x.claim(4), -103);
    }

    private static void claimOfDoubled() {
        StationBook x = new StationBook();
        x.claim(3);
        x.answered(3, 1, false, false, false);
        DUE.unchanged("doubled", x, () -> x.claim(3), -103);
        DUE.is("its neighbour", x.claim(2), 10);
        x.give();
        DUE.unchanged("doubled for ever", x, () -> x.claim(3), -103);
    }

    private static void claimOfKnownAddresses() {
        StationBook x = new StationBook();
        for (int address = 0; address < 5; address++) {
            x.send(address, 1);
        }
        x.told(9, 1, 200, 0);
        x.better(9, 40, 12);
        DUE.unchanged("has an entry", x, () -> x.claim(4), -103);
        DUE.unchanged("is a router", x, () -> x.claim(9), -103);
        DUE.unchanged("is kept", x, () -> x.claim(12), -103);
        DUE.is("is unknown", x.claim(13), 10);
        x.give();
        x.pass(18);
        DUE.is("its entry is gone", x.claim(4), 28);
        x.give();
        x.told(9, 1, 0, 0);
        DUE.unchanged("was a router, has an entry", x, () -> x.claim(9), -103);
    }

    private static void giveRefuses() {
        StationBook x = new StationBook();
        DUE.unchanged("give()", x, () -> x.give(), -103);
        x.claim(0);
        x.answered(0, 1, true, true, true);
        DUE.unchanged("doubled", x, () -> x.give(), -103);
    }

    private static void giveOfATrial() {
        StationBook x = new StationBook();
        x.claim(0);
        x.pass(3);
        DUE.is("give", x.give(), 0);
        DUE.is("no trial", x.about(2), -1);
        DUE.is("no tick", x.about(3), -1);
        DUE.is("not doubled", x.about(4), 0);
        x.pass(20);
        DUE.is("never own", x.about(1), -1);
        DUE.is("out ever", x.count(6), 4);
        DUE.is("claimed again", x.claim(0), 33);
        x.pass(7);
        DUE.is("counted from the new beginning", x.about(1), -1);
        x.pass(3);
        DUE.is("own", x.about(1), 0);
    }

    private static void giveOfOwn() {
        StationBook x = new StationBook();
        x.claim(5);
        x.pass(10);
        DUE.is("give", x.give(), 5);
        DUE.is("no own", x.about(1), -1);
        DUE.unchanged("again", x, () -> x.give(), -103);
        DUE.is("nobody answers", x.asks(7, 1, 5), 0);
        DUE.is("others may have it", x.told(5, 1, 1, 1), 1);
    }
}

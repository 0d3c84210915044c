/** The edges of promise 11, give. */
public final class Promise11GiveTest extends Books {
    private static final Due DUE = new Due("Promise11GiveTest");

    public static void main(String[] args) {
        DUE.all(Promise11GiveTest.class);
    }

    private static StationBook givenUp(int ticks) {
        StationBook x = claimed(6, ticks);
        x.give();
        return x;
    }

    private static StationBook doubled() {
        StationBook x = claimed(6, 9);
        x.asks(NONE, 1, 6);
        return x;
    }

    static void withoutOwnOrTrialItIsRefused() {
        DUE.nothing("a new object", StationBook::new, x -> x.give(), STATE);
        DUE.nothing("a trial was given up", () -> givenUp(9), x -> x.give(), STATE);
        DUE.nothing("own was given up", () -> givenUp(10), x -> x.give(), STATE);
        DUE.nothing("doubled", Promise11GiveTest::doubled, x -> x.give(), STATE);
    }

    static void aTrialIsGivenUpTill9TicksBehindAndOwnFrom10On() {
        int[] addresses = {0, 15};
        int[] ticks = {0, 9, 10, 11};
        for (int address : addresses) {
            for (int tick : ticks) {
                StationBook x = claimed(address, tick);
                DUE.is("give", x.give(), address);
                for (int what = 1; what <= 3; what++) {
                    DUE.is("about(" + what + ")", x.about(what), NONE);
                }
                DUE.is("not doubled", x.about(4), 0);
            }
        }
    }

    static void aTrialGivenUpAtItsLastTickIsNeverOwn() {
        StationBook x = givenUp(9);
        x.pass(1);
        DUE.is("at 10", x.about(1), NONE);
        x.pass(60);
        DUE.is("later", x.about(1), NONE);
    }

    static void aTrialGivenUpAfter4TicksGoesOutNoMore() {
        StationBook x = givenUp(4);
        int before = x.count(6);
        x.pass(1);
        DUE.is("at 5", x.count(6), before);
    }

    static void whatIsGivenUpIsAnAddressAsAnyOther() {
        int[] ticks = {9, 10};
        for (int tick : ticks) {
            DUE.is("send", givenUp(tick).send(6, 1), 1);
            DUE.is("told", givenUp(tick).told(6, 1, 1, 1), 1);
            DUE.is("asks", givenUp(tick).asks(6, 1, 7), 0);
            DUE.is("asked for", givenUp(tick).asks(7, 1, 6), 0);
            DUE.is("asked for by none", givenUp(tick).asks(NONE, 1, 6), 0);
            DUE.is("claim", givenUp(tick).claim(6), tick + 10);
        }
    }
}

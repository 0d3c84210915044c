/** The edges of "Terms" that no call has alone: who goes where there is no room, and what goes with one that is GONE. */
public final class TermsRoomTest extends Books {
    private static final Due DUE = new Due("TermsRoomTest");

    public static void main(String[] args) {
        DUE.all(TermsRoomTest.class);
    }

    /** The ways by which a sixth ENTRY, of the ADDRESS 9, is to come. */
    private static StationBook withSixth(StationBook x, int way) {
        if (way == 0) {
            x.send(9, 1);
        } else if (way == 1) {
            x.told(9, 1, 0, 0);
        } else if (way == 2) {
            x.asks(9, 1, 15);
        } else {
            x.route(47, 1);
        }
        return x;
    }

    /** Five STALE ones at 0 to 4, that came at the ticks told; OWN is 15, and 9 is kept as HOP of 47. */
    private static StationBook cameAt(int... ticks) {
        StationBook x = new StationBook();
        x.claim(15);
        x.pass(10);
        for (int tick = 0; tick < 5; tick++) {
            for (int address = 0; address < 5; address++) {
                if (ticks[address] == tick) {
                    x.told(address, MARK, 1, 0);
                    x.better(address, 47, 9);
                }
            }
            x.pass(1);
        }
        return x;
    }

    static void theStaleOneWhoseUsedIsLeastIsGone() {
        int[][] ticks = {{0, 1, 2, 3, 4}, {1, 0, 2, 3, 4}, {4, 3, 2, 1, 0}, {1, 2, 0, 3, 4}, {2, 1, 3, 0, 4}};
        int[] least = {0, 1, 4, 2, 3};
        for (int i = 0; i < ticks.length; i++) {
            for (int way = 0; way < 4; way++) {
                StationBook x = withSixth(cameAt(ticks[i]), way);
                DUE.is("entries", x.count(0), 5);
                DUE.is("gone", x.count(7), 1);
                DUE.is("the sixth", x.entry(9, 0), way == 0 || way == 3 ? ASKING : STALE);
                for (int address = 0; address < 5; address++) {
                    DUE.is("way " + way + ", entry " + address, x.entry(address, 0), address == least[i] ? UNKNOWN : STALE);
                }
            }
        }
    }

    static void ofSeveralUsedAlikeTheLeastAddressIsGone() {
        int[][] ticks = {{0, 0, 0, 0, 1}, {1, 0, 0, 2, 3}, {3, 2, 1, 0, 0}, {1, 1, 0, 1, 0}};
        int[] least = {0, 1, 3, 2};
        for (int i = 0; i < ticks.length; i++) {
            for (int way = 0; way < 3; way++) {
                StationBook x = withSixth(cameAt(ticks[i]), way);
                for (int address = 0; address < 5; address++) {
                    DUE.is("way " + way + ", entry " + address, x.entry(address, 0), address == least[i] ? UNKNOWN : STALE);
                }
            }
        }
    }

    static void oneThatIsNotStaleStaysThoughItsUsedIsLess() {
        StationBook x = new StationBook();
        x.told(0, MARK, 0, 0);
        x.hint(0);
        x.pass(1);
        for (int address = 1; address < 5; address++) {
            x.told(address, MARK, 0, 0);
        }
        x.send(9, 1);
        DUE.is("fresh, used at 0", x.entry(0, 0), FRESH);
        DUE.is("stale, used at 1", x.entry(1, 0), UNKNOWN);
    }

    static void aLetterMakesUsedLater() {
        StationBook x = five(STALE);
        x.pass(1);
        x.send(0, 1);
        x.hint(0);
        x.pass(30);
        DUE.is("stale again", x.entry(0, 0), STALE);
        x.send(9, 1);
        DUE.is("used at 1", x.entry(0, 0), STALE);
        DUE.is("used at 0", x.entry(1, 0), UNKNOWN);
    }

    static void aLetterThatGoesOutLaterMakesUsedNoLater() {
        StationBook x = new StationBook();
        x.send(4, 1);
        x.pass(1);
        for (int address = 0; address < 4; address++) {
            x.told(address, MARK, 0, 0);
        }
        x.pass(1);
        x.answered(4, 1, false, false, false);
        DUE.is("it went out at 2", x.out(0, 4), 2);
        x.send(9, 1);
        DUE.is("used at 0", x.entry(4, 0), UNKNOWN);
        DUE.is("used at 1", x.entry(0, 0), STALE);
    }

    static void onlyTheLastOfSeveralSixthsFindsNoRoom() {
        StationBook x = five(STALE);
        for (int address = 5; address < 10; address++) {
            DUE.is("room", x.send(address, 1), 1);
            DUE.is("entries", x.count(0), 5);
            DUE.is("gone", x.count(7), address - 4);
            DUE.is("the least one", x.entry(address - 5, 0), UNKNOWN);
        }
        DUE.unchanged("no room", x, () -> x.send(10, 1), FULL);
    }

    /** HEARD without room is nothing: neither an ENTRY nor one that is GONE. */
    static void heardWithoutRoomIsNothing() {
        for (int state : NOT_STALE) {
            DUE.nothing("told, state " + state, () -> five(state), x -> x.told(9, 1, 0, 0), 0);
        }
    }

    private static StationBook keptToTheStale() {
        StationBook x = routers(1);
        x.better(1, 16, 0);
        x.better(1, 17, 2);
        x.better(1, 18, 0);
        x.hint(1);
        x.told(0, MARK, 0, 0);
        for (int address = 2; address < 5; address++) {
            x.told(address, MARK, 0, 0);
        }
        return x;
    }

    static void withOneThatIsGoneForWantOfRoomItsHopsAreKeptNoMore() {
        StationBook x = keptToTheStale();
        DUE.is("kept", x.count(2), 3);
        x.send(9, 1);
        DUE.is("0 is gone", x.entry(0, 0), UNKNOWN);
        DUE.is("kept", x.count(2), 1);
        DUE.is("hop(16)", x.hop(16), 1);
        DUE.is("hop(17)", x.hop(17), 2);
        DUE.is("hop(18)", x.hop(18), 1);
    }

    static void withOneThatIsTriedInVainItsHopsAreKeptNoMore() {
        StationBook x = keptToTheStale();
        x.route(16, 1);
        x.pass(16);
        DUE.is("a tick before", x.hop(16), 0);
        x.pass(1);
        DUE.is("hop(16)", x.hop(16), 1);
        DUE.is("hop(17)", x.hop(17), 2);
        DUE.is("hop(18)", x.hop(18), 1);
    }

    static void withOneThatIsAskedForInVainItsHopsAreKeptNoMore() {
        StationBook x = routers(1);
        x.better(1, 16, 9);
        x.better(1, 17, 8);
        x.route(16, 1);
        x.pass(17);
        DUE.is("a tick before", x.hop(16), 9);
        DUE.is("none lost", x.count(4), 0);
        x.pass(1);
        DUE.is("hop(16)", x.hop(16), 1);
        DUE.is("hop(17)", x.hop(17), 8);
        DUE.is("lost", x.count(4), 1);
    }

    /** A letter by a kept HOP may drive out the ENTRY to which another GOAL's kept HOP leads. */
    static void aRoutedLetterMayDriveOutAnotherKeptHop() {
        StationBook x = keptToTheStale();
        x.better(1, 19, 9);
        DUE.is("held", x.route(19, 1), 1);
        DUE.is("hop(19)", x.hop(19), 9);
        DUE.is("hop(16)", x.hop(16), 1);
        DUE.is("kept", x.count(2), 2);
    }

    static void aRouterWhoseEntryIsGoneIsDoubtfulButARouter() {
        StationBook x = routers(0, 1, 2, 3);
        x.told(4, MARK, 0, 0);
        x.send(9, 1);
        DUE.is("gone", x.entry(0, 0), UNKNOWN);
        DUE.is("routers", x.count(1), 4);
        DUE.router("doubtful, so the last", x, 3, 0, 0, 200, 0);
    }

    /** "No ENTRY, no ROUTER, no HOP that is kept is ever of OWN or TRIAL": all calls that could make one. */
    static void noEntryNoRouterNoHopIsEverOfOwnOrTrial() {
        for (int tick = 0; tick <= 12; tick++) {
            StationBook x = routers(1);
            x.claim(6);
            if (tick > 0) {
                x.pass(tick);
            }
            x.send(6, 1);
            x.told(6, 1, 200, 1);
            x.asks(6, 1, 6);
            x.better(1, 16, 6);
            x.hint(6);
            DUE.is("entry", x.entry(6, 0), UNKNOWN);
            DUE.is("routers", x.count(1), 1);
            DUE.is("kept", x.count(2), 0);
            DUE.is("hop", x.hop(16), 1);
            DUE.is("it is still its own", x.about(tick < 10 ? 2 : 1), 6);
        }
    }
}

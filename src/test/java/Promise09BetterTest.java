/** The edges of promise 9, better. */
public final class Promise09BetterTest extends Books {
    private static final Due DUE = new Due("Promise09BetterTest");

    public static void main(String[] args) {
        DUE.all(Promise09BetterTest.class);
    }

    /** NONE is outside, also where the HOP is NONE. */
    static void fromIs0To15() {
        DUE.range("better(n, 16, 3)", () -> routers(0), 0, 15, OUTSIDE, (x, n) -> x.better(n, 16, 3));
        DUE.range("better(n, 16, 3), no hop", StationBook::new, 0, 15, OUTSIDE, (x, n) -> x.better(n, 16, 3));
    }

    static void goalIs16To47() {
        DUE.range("better(1, n, 3)", () -> routers(1), 16, 47, OUTSIDE, (x, n) -> x.better(1, n, 3));
        DUE.range("better(1, n, 3), four kept", () -> kept(4), 16, 47, OUTSIDE, (x, n) -> x.better(1, n, 3));
    }

    static void hopIs0To15() {
        DUE.range("better(1, 16, n)", () -> routers(1), 0, 15, OUTSIDE, (x, n) -> x.better(1, 16, n));
        DUE.range("better(2, 16, n), by another", () -> routers(1), 0, 15, OUTSIDE, (x, n) -> x.better(2, 16, n));
    }

    private static StationBook routerAndClaimed(int ticks) {
        StationBook x = routers(1);
        x.claim(6);
        if (ticks > 0) {
            x.pass(ticks);
        }
        return x;
    }

    static void trialIsNoHopTill9TicksBehindAndOwnFrom10On() {
        int[] ticks = {0, 9, 10, 11};
        for (int tick : ticks) {
            DUE.nothing("to it", () -> routerAndClaimed(tick), x -> x.better(1, 16, 6), STATE);
            DUE.is("one below", routerAndClaimed(tick).better(1, 16, 5), 1);
            DUE.is("one above", routerAndClaimed(tick).better(1, 16, 7), 1);
        }
    }

    static void outsideComesBeforeState() {
        DUE.nothing("from 16", () -> routerAndClaimed(9), x -> x.better(16, 16, 6), OUTSIDE);
        DUE.nothing("from -1", () -> routerAndClaimed(10), x -> x.better(-1, 16, 6), OUTSIDE);
        DUE.nothing("goal 15", () -> routerAndClaimed(9), x -> x.better(1, 15, 6), OUTSIDE);
        DUE.nothing("goal 48", () -> routerAndClaimed(10), x -> x.better(1, 48, 6), OUTSIDE);
    }

    static void stateComesBeforeNothing() {
        DUE.nothing("by another", () -> routerAndClaimed(9), x -> x.better(2, 16, 6), STATE);
        DUE.nothing("by itself", () -> routerAndClaimed(10), x -> x.better(6, 16, 6), STATE);
        DUE.nothing("no hop", () -> claimed(6, 10), x -> x.better(1, 16, 6), STATE);
    }

    static void onlyTheHopOfNowIsBelieved() {
        DUE.nothing("one below", () -> routers(1, 4), x -> x.better(0, 16, 3), 0);
        DUE.nothing("a router that is not the hop", () -> routers(1, 4), x -> x.better(4, 16, 3), 0);
        DUE.nothing("no hop", StationBook::new, x -> x.better(0, 16, 3), 0);
        DUE.nothing("the router, but another is kept", () -> kept(1), x -> x.better(1, 20, 3), 0);
        DUE.nothing("own", () -> routerAndClaimed(10), x -> x.better(6, 16, 3), 0);
        StationBook x = routers(1, 4);
        DUE.is("the hop", x.better(1, 16, 3), 1);
        DUE.is("hop", x.hop(16), 3);
        DUE.is("the next goal", x.hop(17), 1);
    }

    static void theOneInTurnIsBelievedAndTakesNoTurn() {
        DUE.nothing("not in turn", () -> doubtful(3, 5), x -> x.better(5, 16, 9), 0);
        StationBook x = doubtful(3, 5);
        x.route(16, 1);
        DUE.is("the last one", x.better(3, 16, 9), 0);
        DUE.is("the next one", x.better(5, 16, 9), 1);
        DUE.is("the turn stays", x.about(5), 3);
        DUE.is("the next one still", x.hop(17), 5);
    }

    static void theKeptHopMayTellABetterOne() {
        StationBook x = kept(1);
        DUE.is("the kept one", x.better(14, 20, 0), 1);
        DUE.is("hop", x.hop(20), 0);
        DUE.is("one is kept", x.count(2), 1);
        DUE.is("itself", x.better(0, 20, 0), 1);
        DUE.is("one is kept", x.count(2), 1);
    }

    static void fourGoalsAreKept() {
        StationBook x = routers(1);
        for (int i = 0; i < 4; i++) {
            DUE.is("better", x.better(1, 20 + i, 10 + i), 1);
            DUE.is("kept", x.count(2), i + 1);
        }
        for (int i = 0; i < 4; i++) {
            DUE.is("hop", x.hop(20 + i), 10 + i);
        }
    }

    static void ofAFifthTheOneKeptFirstIsKeptNoMore() {
        StationBook x = routers(1);
        int[] goals = {30, 47, 16, 31};
        for (int goal : goals) {
            x.better(1, goal, 10);
        }
        DUE.is("a fifth", x.better(1, 29, 11), 1);
        DUE.is("four are kept", x.count(2), 4);
        int[] want = {1, 10, 10, 10};
        for (int i = 0; i < 4; i++) {
            DUE.is("hop(" + goals[i] + ")", x.hop(goals[i]), want[i]);
        }
        DUE.is("the fifth", x.hop(29), 11);
        DUE.is("the first one again", x.better(1, 30, 12), 1);
        DUE.is("the second goes", x.hop(47), 1);
        DUE.is("the fifth stays", x.hop(29), 11);
    }

    static void aGoalThatIsKeptStaysWhereItIs() {
        StationBook x = kept(4);
        DUE.is("the first anew", x.better(14, 20, 13), 1);
        DUE.is("four are kept", x.count(2), 4);
        x.better(1, 40, 12);
        DUE.is("the first is kept no more", x.hop(20), 1);
        DUE.is("the second is", x.hop(21), 14);
        StationBook y = kept(4);
        DUE.is("the last anew", y.better(14, 23, 13), 1);
        DUE.is("the first is still kept", y.hop(20), 14);
        y.better(1, 40, 12);
        DUE.is("the first is kept no more", y.hop(20), 1);
        DUE.is("the last is", y.hop(23), 13);
    }

    private static StationBook keptTo(int... hops) {
        StationBook x = routers(1);
        for (int i = 0; i < hops.length; i++) {
            x.better(1, 20 + i, hops[i]);
        }
        return x;
    }

    static void aHopWhoseEntryIsGoneMakesRoomForAnotherGoal() {
        StationBook x = keptTo(10, 11, 12, 13);
        x.route(21, 1);
        x.pass(17);
        DUE.is("asked for", x.count(2), 4);
        x.pass(1);
        DUE.is("gone", x.count(2), 3);
        x.better(1, 40, 14);
        DUE.is("the first is still kept", x.hop(20), 10);
        DUE.is("four are kept", x.count(2), 4);
        x.better(1, 41, 14);
        DUE.is("the first is kept no more", x.hop(20), 1);
        DUE.is("the third is", x.hop(22), 12);
    }

    static void allHopsThatLeadToOneThatIsGoneAreKeptNoMore() {
        int[][] leading = {{9, 9, 9, 9}, {9, 8, 9, 8}, {8, 9, 9, 8}, {8, 8, 8, 9}, {9, 8, 8, 8}, {8, 8, 8, 8}};
        for (int[] hops : leading) {
            StationBook x = keptTo(hops);
            x.send(9, 1);
            x.pass(17);
            DUE.is("asked for", x.count(2), 4);
            x.pass(1);
            for (int i = 0; i < 4; i++) {
                DUE.is("hop", x.hop(20 + i), hops[i] == 9 ? 1 : 8);
            }
        }
    }

    static void aHopThatNeverHadAnEntryIsKeptOn() {
        StationBook x = kept(1);
        for (int i = 0; i < 4; i++) {
            x.pass(60);
        }
        DUE.is("no router any more", x.count(1), 0);
        DUE.is("kept", x.hop(20), 14);
    }

    static void noEntryComesAndNothingGoesOut() {
        StationBook x = routers(1);
        x.better(1, 16, 9);
        DUE.is("entries", x.count(0), 1);
        DUE.is("out", x.count(6), 1);
    }
}

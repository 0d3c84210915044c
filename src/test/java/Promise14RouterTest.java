/** The edges of promise 14, router. */
public final class Promise14RouterTest extends Books {
    private static final Due DUE = new Due("Promise14RouterTest");

    public static void main(String[] args) {
        DUE.all(Promise14RouterTest.class);
    }

    static void placesFrom0ToTheLastRouterAreKnown() {
        DUE.nothing("none: router(0, 0)", StationBook::new, x -> x.router(0, 0), UNKNOWN);
        DUE.range("one: router(n, 0)", () -> routers(3), 0, 0, UNKNOWN, (x, n) -> x.router(n, 0));
        DUE.range("two: router(n, 0)", () -> routers(3, 5), 0, 1, UNKNOWN, (x, n) -> x.router(n, 0));
        DUE.range("three: router(n, 0)", () -> routers(3, 5, 7), 0, 2, UNKNOWN, (x, n) -> x.router(n, 0));
        DUE.range("four: router(n, 0)", () -> routers(3, 5, 7, 9), 0, 3, UNKNOWN, (x, n) -> x.router(n, 0));
        DUE.range("four doubtful: router(n, 3)", () -> doubtful(3, 5, 7, 9), 0, 3, UNKNOWN, (x, n) -> x.router(n, 3));
    }

    static void whatIs0To3() {
        DUE.range("good: router(0, n)", () -> routers(3), 0, 3, OUTSIDE, (x, n) -> x.router(0, n));
        DUE.range("doubtful: router(3, n)", () -> doubtful(3, 5, 7, 9), 0, 3, OUTSIDE, (x, n) -> x.router(3, n));
    }

    static void unknownComesBeforeOutside() {
        int[] numbers = {-1, 4, Integer.MIN_VALUE, Integer.MAX_VALUE};
        for (int what : numbers) {
            DUE.nothing("none, " + what, StationBook::new, x -> x.router(0, what), UNKNOWN);
            DUE.nothing("place 1, " + what, () -> routers(3), x -> x.router(1, what), UNKNOWN);
            DUE.nothing("place 4, " + what, () -> routers(3, 5, 7, 9), x -> x.router(4, what), UNKNOWN);
            DUE.nothing("place -1, " + what, () -> routers(3), x -> x.router(-1, what), UNKNOWN);
        }
    }

    static void theFirstAndTheLastOfEachNumber() {
        StationBook x = new StationBook();
        x.told(0, 1, 1, 1);
        x.told(15, 99, 200, -1);
        DUE.router("first", x, 0, 0, 1, 1, 1);
        DUE.router("last", x, 1, 15, -1, 200, 1);
    }

    static void goodIsOneWhoseEntryIsNotAsking() {
        StationBook x = doubtful(3);
        DUE.router("no entry", x, 0, 3, 0, 200, 0);
        x.route(16, 1);
        DUE.router("asking", x, 0, 3, 0, 200, 0);
        x.answered(3, 9, true, false, true);
        DUE.router("fresh", x, 0, 3, 0, 200, 1);
        x.pass(30);
        DUE.router("stale", x, 0, 3, 0, 200, 1);
        x.route(16, 2);
        DUE.router("resting", x, 0, 3, 0, 200, 1);
        x.pass(5);
        DUE.router("trying", x, 0, 3, 0, 200, 1);
        x.pass(11);
        DUE.router("trying for the last tick", x, 0, 3, 0, 200, 1);
        x.pass(1);
        DUE.router("gone", x, 0, 3, 0, 200, 0);
    }

    static void goodOnesComeFirstWhateverTheirRank() {
        StationBook x = new StationBook();
        x.told(0, 1, 200, 1);
        x.told(15, 1, 200, -1);
        x.send(0, 1);
        x.pass(16);
        DUE.router("both good", x, 0, 0, 1, 200, 1);
        x.pass(1);
        DUE.router("the good one", x, 0, 15, -1, 200, 1);
        DUE.router("the doubtful one", x, 1, 0, 1, 200, 0);
    }

    static void thenTheGreaterRankWhateverTheAddress() {
        StationBook x = new StationBook();
        x.told(0, 1, 200, -1);
        x.told(7, 1, 200, 0);
        x.told(15, 1, 200, 1);
        int[] order = {15, 7, 0};
        for (int place = 0; place < 3; place++) {
            DUE.is("good", x.router(place, 0), order[place]);
        }
        StationBook y = crowded();
        y.told(0, 1, 200, -1);
        y.told(7, 1, 200, 0);
        y.told(10, 1, 200, 1);
        for (int place = 0; place < 3; place++) {
            DUE.is("doubtful", y.router(place, 0), place == 0 ? 10 : order[place]);
            DUE.is("doubtful", y.router(place, 3), 0);
        }
    }

    static void thenTheLesserAddress() {
        int[][] told = {{3, 4, 14, 15}, {15, 14, 4, 3}, {14, 3, 15, 4}};
        int[] order = {3, 4, 14, 15};
        for (int[] addresses : told) {
            StationBook x = routers(addresses);
            StationBook y = doubtful(addresses);
            for (int place = 0; place < 4; place++) {
                DUE.is("good", x.router(place, 0), order[place]);
                DUE.is("doubtful", y.router(place, 0), order[place]);
            }
        }
    }

    static void theOthersCloseUpWhereOneIsOneNoMore() {
        int[] ranks = {1, 1, 0, -1};
        for (int ended = 0; ended < 4; ended++) {
            StationBook x = new StationBook();
            for (int address = 0; address < 4; address++) {
                x.told(address, 1, 100 + address, ranks[address]);
            }
            x.told(ended, 1, 0, 0);
            int place = 0;
            for (int address = 0; address < 4; address++) {
                if (address != ended) {
                    DUE.router("closed up", x, place, address, ranks[address], 100 + address, 1);
                    place++;
                }
            }
            DUE.is("none behind", x.router(3, 0), UNKNOWN);
        }
    }
}

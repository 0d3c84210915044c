/** Promises 12 to 19: entry, held, router, hop, out, about, count, digest. */
public final class ToldTest {
    private static final Due DUE = new Due("ToldTest");
    private static final int[] NOT_ADDRESSES = {-1, 16, Integer.MIN_VALUE, Integer.MAX_VALUE};

    public static void main(String[] args) {
        entryRefuses();
        entryOfEachState();
        heldRefuses();
        routerRefuses();
        routersInOrder();
        hopRefuses();
        hopByOrder();
        outRefuses();
        outKeepsTen();
        aboutAndCountRefuse();
        counts();
        digestOfANewOne();
        digestOfAll();
        tellingChangesNothing();
        DUE.end();
    }

    private static void entryRefuses() {
        StationBook x = new StationBook();
        x.send(3, 1);
        for (int address : NOT_ADDRESSES) {
            DUE.unchanged("entry(" + address + ", 0)", x, () -> x.entry(address, 0), -101);
        }
        DUE.unchanged("no entry", x, () -> x.entry(4, 0), -101);
        DUE.unchanged("unknown first", x, () -> x.entry(4, 8), -101);
        DUE.unchanged("unknown first", x, () -> x.entry(16, -1), -101);
        DUE.unchanged("entry(3, 8)", x, () -> x.entry(3, 8), -102);
        DUE.unchanged("entry(3, -1)", x, () -> x.entry(3, -1), -102);
        DUE.unchanged("entry(3, max)", x, () -> x.entry(3, Integer.MAX_VALUE), -102);
        x.told(5, 1, 100, 0);
        x.pass(18);
        DUE.is("gone", x.entry(3, 0), -101);
        DUE.is("a router with an entry", x.entry(5, 5), 1);
    }

    private static void entryOfEachState() {
        StationBook x = new StationBook();
        x.told(15, 99, 200, 0);
        DUE.entry("stale", x, 15, 2, 99, -1, 0, 0, 1, 0, -1);
        x.hint(15);
        DUE.entry("fresh", x, 15, 1, 99, 30, 0, 0, 1, 0, -1);
        x.send(0, 1);
        DUE.entry("asking", x, 0, 0, 0, 6, 1, 1, 0, 0, 18);
        x.pass(12);
        DUE.entry("asking for the third time", x, 0, 0, 0, 18, 3, 1, 0, 0, 18);
        x.pass(18);
        x.send(15, 1);
        DUE.entry("resting", x, 15, 3, 99, 35, 0, 0, 1, 30, 47);
        x.pass(5);
        DUE.entry("trying", x, 15, 4, 99, 39, 1, 0, 1, 30, 47);
        x.pass(8);
        DUE.entry("trying for the third time", x, 15, 4, 99, 47, 3, 0, 1, 30, 47);
        x.pass(4);
        DUE.is("gone as told", x.entry(15, 0), -101);
        x.send(15, 5);
        DUE.entry("a router that is asked for", x, 15, 0, 0, 53, 1, 1, 1, 47, 65);
    }

    private static void heldRefuses() {
        StationBook x = new StationBook();
        x.send(3, 11);
        x.send(3, 12);
        for (int address : NOT_ADDRESSES) {
            DUE.unchanged("held(" + address + ", 0)", x, () -> x.held(address, 0), -101);
        }
        DUE.unchanged("no entry", x, () -> x.held(4, 0), -101);
        DUE.unchanged("held(3, -1)", x, () -> x.held(3, -1), -101);
        DUE.unchanged("held(3, 0)", x, () -> x.held(3, 0), 11);
        DUE.unchanged("held(3, 1)", x, () -> x.held(3, 1), 12);
        DUE.unchanged("held(3, 2)", x, () -> x.held(3, 2), -101);
        DUE.unchanged("held(3, max)", x, () -> x.held(3, Integer.MAX_VALUE), -101);
        x.pass(18);
        DUE.is("gone", x.held(3, 0), -101);
        x.send(3, 13);
        DUE.is("anew", x.held(3, 0), 13);
        DUE.is("anew", x.held(3, 1), -101);
    }

    private static void routerRefuses() {
        StationBook x = new StationBook();
        DUE.unchanged("none", x, () -> x.router(0, 0), -101);
        x.told(3, 1, 200, 0);
        DUE.unchanged("router(1, 0)", x, () -> x.router(1, 0), -101);
        DUE.unchanged("router(-1, 0)", x, () -> x.router(-1, 0), -101);
        DUE.unchanged("unknown first", x, () -> x.router(1, 4), -101);
        DUE.unchanged("router(0, 4)", x, () -> x.router(0, 4), -102);
        DUE.unchanged("router(0, -1)", x, () -> x.router(0, -1), -102);
        DUE.unchanged("router(max, 0)", x, () -> x.router(Integer.MAX_VALUE, 0), -101);
    }

    private static void routersInOrder() {
        StationBook x = new StationBook();
        x.told(9, 1, 200, 0);
        x.told(7, 1, 200, -1);
        x.told(8, 1, 190, 0);
        x.told(2, 1, 180, 1);
        DUE.router("first", x, 0, 2, 1, 180, 1);
        DUE.router("second", x, 1, 8, 0, 190, 1);
        DUE.router("third", x, 2, 9, 0, 200, 1);
        DUE.router("fourth", x, 3, 7, -1, 200, 1);
        x.send(2, 1);
        x.send(9, 1);
        x.pass(17);
        DUE.router("first", x, 0, 8, 0, 190, 1);
        DUE.router("second", x, 1, 7, -1, 200, 1);
        DUE.router("doubtful ones behind", x, 2, 2, 1, 180, 0);
        DUE.router("doubtful ones behind", x, 3, 9, 0, 200, 0);
        x.send(9, 1);
        DUE.router("asking is doubtful", x, 3, 9, 0, 200, 0);
        x.answered(9, 5, false, false, true);
        DUE.router("stale is good", x, 1, 9, 0, 200, 1);
    }

    private static void hopRefuses() {
        StationBook x = new StationBook();
        x.told(3, 1, 200, 0);
        DUE.unchanged("hop(15)", x, () -> x.hop(15), -102);
        DUE.unchanged("hop(48)", x, () -> x.hop(48), -102);
        DUE.unchanged("hop(min)", x, () -> x.hop(Integer.MIN_VALUE), -102);
        DUE.unchanged("hop(16)", x, () -> x.hop(16), 3);
        DUE.unchanged("hop(47)", x, () -> x.hop(47), 3);
    }

    private static void hopByOrder() {
        StationBook x = new StationBook();
        DUE.is("none", x.hop(20), -1);
        x.told(9, 1, 200, 0);
        DUE.is("the only one", x.hop(20), 9);
        x.told(12, 1, 200, 1);
        DUE.is("greater rank", x.hop(20), 12);
        x.told(11, 1, 200, 1);
        DUE.is("lesser address", x.hop(20), 11);
        x.better(11, 20, 0);
        DUE.is("kept", x.hop(20), 0);
        DUE.is("kept for that goal alone", x.hop(21), 11);
    }

    private static void outRefuses() {
        StationBook x = new StationBook();
        DUE.unchanged("out(0, 5)", x, () -> x.out(0, 5), -102);
        DUE.unchanged("out(0, -1)", x, () -> x.out(0, -1), -102);
        DUE.unchanged("out(-1, 0)", x, () -> x.out(-1, 0), -101);
        DUE.unchanged("out(1, 0)", x, () -> x.out(1, 0), -101);
        DUE.unchanged("unknown first", x, () -> x.out(1, 5), -101);
        DUE.unchanged("out(max, 0)", x, () -> x.out(Integer.MAX_VALUE, 0), -101);
        DUE.unchanged("out(min, 0)", x, () -> x.out(Integer.MIN_VALUE, 0), -101);
    }

    private static void outKeepsTen() {
        StationBook x = new StationBook();
        x.told(3, 30, 200, 0);
        for (int letter = 1; letter <= 9; letter++) {
            x.send(3, letter);
        }
        DUE.out("the first of all", x, 9, 5, -1, 0, 0, 0);
        for (int letter = 10; letter <= 32; letter++) {
            x.send(3, letter);
            DUE.out("the latest", x, 0, 0, 3, 30, letter, 0);
            DUE.out("the one before", x, 1, 0, 3, 30, letter - 1, 0);
            DUE.out("the tenth", x, 9, 0, 3, 30, letter - 9, 0);
            DUE.is("out(10, 0)", x.out(10, 0), -101);
        }
        for (int place = 0; place < 10; place++) {
            DUE.is("letter", x.out(place, 3), 32 - place);
        }
        DUE.is("out ever", x.count(6), 33);
        DUE.is("letters ever", x.count(5), 32);
    }

    private static void aboutAndCountRefuse() {
        StationBook x = new StationBook();
        int[] wrong = {-1, 9, Integer.MIN_VALUE, Integer.MAX_VALUE};
        for (int what : wrong) {
            DUE.unchanged("about(" + what + ")", x, () -> x.about(what), -102);
            DUE.unchanged("count(" + what + ")", x, () -> x.count(what), -102);
        }
        DUE.unchanged("about(6)", x, () -> x.about(6), -102);
    }

    /** A book in which none of the numbers of count() is 0. */
    private static StationBook busy() {
        StationBook x = new StationBook();
        x.told(8, 80, 200, 1);
        x.told(9, 90, 150, 0);
        x.told(7, 70, 100, -1);
        x.better(8, 16, 3);
        x.better(8, 17, 4);
        x.hint(8);
        for (int letter = 1; letter <= 5; letter++) {
            x.route(16, letter);
        }
        x.send(9, 6);
        x.send(4, 7);
        x.send(4, 8);
        x.told(12, 1, 0, 0);
        x.claim(10);
        x.pass(1);
        x.answered(10, 1, true, true, true);
        x.claim(11);
        return x;
    }

    private static void counts() {
        StationBook x = busy();
        int[] want = {5, 3, 2, 5, 2, 1, 6, 1, 1};
        for (int what = 0; what < 9; what++) {
            DUE.is("count(" + what + ")", x.count(what), want[what]);
        }
        int[] about = {1, -1, 11, 11, 1024, -1};
        for (int what = 0; what < 6; what++) {
            DUE.is("about(" + what + ")", x.about(what), about[what]);
        }
    }

    private static void digestOfANewOne() {
        long h = 1523L;
        int[] about = {0, -1, -1, -1, 0, -1};
        for (int number : about) {
            h = 31 * h + number;
        }
        for (int address = 0; address < 16; address++) {
            h = 31 * h - 1;
        }
        for (int goal = 16; goal < 20; goal++) {
            h = 31 * h - 1;
        }
        int[] rest = {5, -1, 0, 0, 0, 0, 0, 0, 0, 0, 0, 1, 0, 0};
        for (int number : rest) {
            h = 31 * h + number;
        }
        DUE.is("digest()", new StationBook().digest(), h);
    }

    /** The digest as the document tells it, from what the other calls tell. */
    private static long digestFromCalls(StationBook x) {
        long h = 1523L;
        for (int what = 0; what <= 5; what++) {
            h = 31 * h + x.about(what);
        }
        for (int address = 0; address < 16; address++) {
            if (x.entry(address, 0) == -101) {
                h = 31 * h - 1;
                continue;
            }
            for (int what = 0; what <= 7; what++) {
                h = 31 * h + x.entry(address, what);
            }
            for (int place = 0; x.held(address, place) != -101; place++) {
                h = 31 * h + x.held(address, place);
            }
        }
        for (int place = 0; place < x.count(1); place++) {
            for (int what = 0; what <= 3; what++) {
                h = 31 * h + x.router(place, what);
            }
        }
        for (int goal = 16; goal <= 19; goal++) {
            h = 31 * h + x.hop(goal);
        }
        for (int place = 0; x.out(place, 0) != -101; place++) {
            for (int what = 0; what <= 4; what++) {
                h = 31 * h + x.out(place, what);
            }
        }
        for (int what = 0; what <= 8; what++) {
            h = 31 * h + x.count(what);
        }
        return h;
    }

    private static void digestOfAll() {
        for (int ticks = 1; ticks <= 40; ticks++) {
            StationBook x = busy();
            x.pass(ticks);
            DUE.is("digest()", x.digest(), digestFromCalls(x));
        }
    }

    private static void tellingChangesNothing() {
        for (int a = -2; a < 50; a++) {
            StationBook x = busy();
            for (int b = -2; b < 12; b++) {
                x.entry(a, b);
                x.held(a, b);
                x.router(a, b);
                x.out(a, b);
            }
            x.hop(a);
            x.about(a);
            x.count(a);
            DUE.is("digest()", x.digest(), busy().digest());
        }
    }
}

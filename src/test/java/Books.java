/** Books in the states that the edges need, made by calls alone; the tests of edges extend it for its names. */
abstract class Books {
    static final int NONE = -1, UNKNOWN = -101, OUTSIDE = -102, STATE = -103, FULL = -104;
    static final int ASKING = 0, FRESH = 1, STALE = 2, RESTING = 3, TRYING = 4;
    static final int LETTER = 0, ASK = 1, PROBE = 2, ANSWER = 3, TRIAL = 4, SOLICIT = 5;
    static final int[] STATES = {ASKING, FRESH, STALE, RESTING, TRYING};
    static final int[] NOT_STALE = {ASKING, FRESH, RESTING, TRYING};
    static final int[] WITH_MARK = {FRESH, STALE, RESTING, TRYING};

    /** The MARK of all ENTRIES that are made here. */
    static final int MARK = 50;

    /** So many ENTRIES, at the ADDRESSES from 0 on, all in one STATE; the clock is at 5 by TRYING, else at 0. */
    static StationBook entries(int many, int state) {
        StationBook x = new StationBook();
        for (int address = 0; address < many; address++) {
            if (state == ASKING) {
                x.send(address, 100 + address);
                continue;
            }
            x.told(address, MARK, 0, 0);
            if (state == FRESH) {
                x.hint(address);
            } else if (state != STALE) {
                x.send(address, 200 + address);
            }
        }
        if (state == TRYING) {
            x.pass(5);
        }
        return x;
    }

    static StationBook five(int state) {
        return entries(5, state);
    }

    /** Entry 0 ASKING, 1 FRESH, 2 STALE, 3 RESTING, 4 TRYING, each a ROUTER but for 0; the clock is at 5. */
    static StationBook oneOfEach() {
        StationBook x = new StationBook();
        x.told(4, MARK, 200, 0);
        x.send(4, 204);
        x.pass(5);
        for (int address = 1; address < 4; address++) {
            x.told(address, MARK, 200, 0);
        }
        x.hint(1);
        x.send(3, 203);
        x.send(0, 100);
        return x;
    }

    /** A TRIAL of that ADDRESS began so many ticks ago; from 10 on it is OWN. */
    static StationBook claimed(int address, int ticks) {
        StationBook x = new StationBook();
        x.claim(address);
        if (ticks > 0) {
            x.pass(ticks);
        }
        return x;
    }

    /** ROUTERS of RANK 0 till tick 200, without ENTRIES, in an empty book; the clock is at 18. */
    static StationBook doubtful(int... addresses) {
        StationBook x = crowded(addresses);
        x.pass(18);
        return x;
    }

    /** ROUTERS of RANK 0 till tick 200, without ENTRIES, for five others are ASKING; the clock is at 0. */
    static StationBook crowded(int... addresses) {
        StationBook x = new StationBook();
        int others = 0;
        for (int address = 15; address >= 0 && others < 5; address--) {
            if (!isAmong(address, addresses)) {
                x.send(address, 100 + address);
                others++;
            }
        }
        for (int address : addresses) {
            x.told(address, MARK, 200, 0);
        }
        return x;
    }

    private static boolean isAmong(int address, int[] addresses) {
        for (int other : addresses) {
            if (other == address) {
                return true;
            }
        }
        return false;
    }

    /** GOOD ROUTERS of RANK 0 till tick 200, with STALE ENTRIES. */
    static StationBook routers(int... addresses) {
        StationBook x = new StationBook();
        for (int address : addresses) {
            x.told(address, MARK, 200, 0);
        }
        return x;
    }

    /** The ROUTER 1 has told of 14 as HOP of so many GOALS, from 20 on. */
    static StationBook kept(int many) {
        StationBook x = routers(1);
        for (int i = 0; i < many; i++) {
            x.better(1, 20 + i, 14);
        }
        return x;
    }
}

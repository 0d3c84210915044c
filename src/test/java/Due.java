import java.util.function.LongSupplier;

/** Compares answers with those that are due, and ends a test program with code 1 if one was wrong. */
final class Due {
    private final String test;
    private int checked = 0;
    private int wrong = 0;

    Due(String test) {
        this.test = test;
    }

    void is(String what, long got, long want) {
        checked++;
        if (got != want) {
            wrong++;
            System.out.println(test + ": " + what + " answered " + got + ", due is " + want);
        }
    }

    /** A refused call, or one that only tells: the answer is as due, and the book is as before. */
    void unchanged(String what, StationBook x, LongSupplier call, long want) {
        long before = x.digest();
        is(what, call.getAsLong(), want);
        is("digest() behind " + what, x.digest(), before);
    }

    /** All that is told of an ENTRY: STATE, MARK, END, TRIES, HELD, ROUTER, USED, GONE. */
    void entry(String what, StationBook x, int address, int... want) {
        for (int i = 0; i < want.length; i++) {
            is(what + ": entry(" + address + ", " + i + ")", x.entry(address, i), want[i]);
        }
    }

    /** One of OUT: SORT, ADDRESS, MARK, LETTER, TICK. */
    void out(String what, StationBook x, int place, int... want) {
        for (int i = 0; i < want.length; i++) {
            is(what + ": out(" + place + ", " + i + ")", x.out(place, i), want[i]);
        }
    }

    /** A ROUTER by its place: ADDRESS, RANK, TICK, GOOD. */
    void router(String what, StationBook x, int place, int... want) {
        for (int i = 0; i < want.length; i++) {
            is(what + ": router(" + place + ", " + i + ")", x.router(place, i), want[i]);
        }
    }

    void end() {
        System.out.println(test + ": " + (checked - wrong) + " answers as due, " + wrong + " not");
        if (wrong != 0 || checked == 0) {
            System.exit(1);
        }
    }
}

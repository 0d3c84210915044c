import java.lang.reflect.InvocationTargetException;
import java.lang.reflect.Method;
import java.lang.reflect.Modifier;
import java.util.Arrays;
import java.util.Comparator;
import java.util.function.LongSupplier;
import java.util.function.Supplier;
import java.util.function.ToLongFunction;

/** Compares answers with those that are due, and ends a test program with code 1 if one was wrong. */
final class Due {
    private final String test;
    private String sentence = "";
    private int checked = 0;
    private int wrong = 0;

    /** A call on a book with one number of it left open. */
    interface Call {
        long of(StationBook x, int number);
    }

    Due(String test) {
        this.test = test;
    }

    void is(String what, long got, long want) {
        checked++;
        if (got != want) {
            wrong++;
            System.out.println(test + sentence + ": " + what + " answered " + got + ", due is " + want);
        }
    }

    /** A refused call, or one that only tells: the answer is as due, and the book is as before. */
    void unchanged(String what, StationBook x, LongSupplier call, long want) {
        long before = x.digest();
        is(what, call.getAsLong(), want);
        is("digest() behind " + what, x.digest(), before);
    }

    /** The answer is as due, and the book goes on as one made alike on which the call was never made. */
    void nothing(String what, Supplier<StationBook> made, ToLongFunction<StationBook> call, long want) {
        StationBook x = made.get();
        is(what, call.applyAsLong(x), want);
        alikeFromNowOn("behind " + what, x, made.get());
    }

    /**
     * The digest does not tell all that a book knows (the GOALS above 19, which HOP was kept first, whether a
     * ROUTER was ever made, the TURN): what comes later does.
     */
    private void alikeFromNowOn(String what, StationBook x, StationBook twin) {
        is("digest() " + what, x.digest(), twin.digest());
        hopsAlike(what, x, twin);
        for (int tick = 1; tick <= 12; tick++) {
            x.pass(1);
            twin.pass(1);
            is("digest() " + tick + " ticks " + what, x.digest(), twin.digest());
        }
        for (int goal = 44; goal <= 47; goal++) {
            is("better() " + what, x.better(x.hop(goal), goal, 12), twin.better(twin.hop(goal), goal, 12));
            hopsAlike("one more kept " + what, x, twin);
        }
        for (int goal = 16; goal <= 20; goal++) {
            is("route(" + goal + ") " + what, x.route(goal, goal), twin.route(goal, goal));
        }
        is("claim(13) " + what, x.claim(13), twin.claim(13));
        x.pass(60);
        twin.pass(60);
        is("digest() long " + what, x.digest(), twin.digest());
    }

    private void hopsAlike(String what, StationBook x, StationBook twin) {
        for (int goal = 16; goal <= 47; goal++) {
            is("hop(" + goal + ") " + what, x.hop(goal), twin.hop(goal));
        }
    }

    /** From low to high the call is taken; just beyond, and far beyond, it is refused so, and changes nothing. */
    void range(String what, Supplier<StationBook> made, int low, int high, int refusal, Call call) {
        int[] right = {low, low + 1, high - 1, high};
        for (int number : right) {
            if (number >= low && number <= high) {
                is(what + " of " + number + " is taken", call.of(made.get(), number) > -100 ? 1 : 0, 1);
            }
        }
        int[] beyond = {low - 1, high + 1, low - 2, high + 2, Integer.MIN_VALUE, Integer.MAX_VALUE};
        for (int number : beyond) {
            nothing(what + " of " + number, made, x -> call.of(x, number), refusal);
        }
    }

    /** All that is told of an ENTRY: STATE, MARK, END, TRIES, HELD, ROUTER, USED, GONE. */
    void entry(String what, StationBook x, int address, int... want) {
        for (int i = 0; i < want.length; i++) {
            is(what + ": entry(" + address + ", " + i + ")", x.entry(address, i), want[i]);
        }
    }

    /** One of OUT: SORT, ADDRESS, MARK, LETTER, TICK. */
    void out(String what, StationBook x, int place, int... want) {
        for (int i = 0; i < want.length; i++) {
            is(what + ": out(" + place + ", " + i + ")", x.out(place, i), want[i]);
        }
    }

    /** A ROUTER by its place: ADDRESS, RANK, TICK, GOOD. */
    void router(String what, StationBook x, int place, int... want) {
        for (int i = 0; i < want.length; i++) {
            is(what + ": router(" + place + ", " + i + ")", x.router(place, i), want[i]);
        }
    }

    /** Runs every test of a class, so that none can be forgotten: each static method without parameters. */
    void all(Class<?> tests) {
        Method[] methods = tests.getDeclaredMethods();
        Arrays.sort(methods, Comparator.comparing(Method::getName));
        for (Method method : methods) {
            boolean isTest = Modifier.isStatic(method.getModifiers()) && method.getParameterCount() == 0
                && method.getReturnType() == void.class && !method.isSynthetic();
            if (isTest) {
                one(method);
            }
        }
        sentence = "";
        end();
    }

    private void one(Method method) {
        sentence = "." + method.getName();
        int before = checked;
        try {
            method.invoke(null);
        } catch (IllegalAccessException | InvocationTargetException e) {
            wrong++;
            System.out.println(test + sentence + " could not be run to its end: " + e.getCause());
        }
        if (checked == before) {
            wrong++;
            System.out.println(test + sentence + " looks at nothing");
        }
    }

    void end() {
        System.out.println(test + ": " + (checked - wrong) + " answers as due, " + wrong + " not");
        if (wrong != 0 || checked == 0) {
            System.exit(1);
        }
    }
}

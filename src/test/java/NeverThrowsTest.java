import java.util.List;
import java.util.Random;

/** Rule 7 of LANGUAGE.md: no call ever throws or fails to end, for any arguments in any state. */
public final class NeverThrowsTest extends Books {
    private static final Due DUE = new Due("NeverThrowsTest");
    private static final String[] ONE_NUMBER = {"pass", "hint", "claim", "give", "hop", "about", "count", "digest"};
    private static final String[] TWO_NUMBERS = {"send", "route", "entry", "held", "router", "out"};
    private static final String[] MORE_NUMBERS = {"answered", "asks", "told", "better"};

    public static void main(String[] args) {
        endWithin(120);
        DUE.all(NeverThrowsTest.class);
    }

    /** All of it takes a second or two; a call that never ends would else be waited for by .ci/run. */
    private static void endWithin(int seconds) {
        Thread watch = new Thread(() -> {
            try {
                Thread.sleep(seconds * 1000L);
            } catch (InterruptedException e) {
                return;
            }
            System.out.println("NeverThrowsTest: a call did not end");
            Runtime.getRuntime().halt(1);
        });
        watch.setDaemon(true);
        watch.start();
    }

    private static long call(StationBook x, String name, boolean[] flags, int... numbers) {
        Walk.Step step = new Walk.Step(name, numbers, flags);
        try {
            return step.on(x);
        } catch (RuntimeException | Error e) {
            DUE.is(step + " threw " + e, 1, 0);
            return OUTSIDE;
        }
    }

    private static final boolean[] FLAGS = {true, true, false};

    /** Each number of each call, at and beyond its edges and far away, the others being right or wrong. */
    private static void eachCall(StationBook x) {
        for (int a : Walk.ODD) {
            for (String name : ONE_NUMBER) {
                call(x, name, FLAGS, a, 0, 0, 0);
            }
            for (int b : Walk.ODD) {
                for (String name : TWO_NUMBERS) {
                    call(x, name, FLAGS, a, b, 0, 0);
                }
                for (String name : MORE_NUMBERS) {
                    call(x, name, FLAGS, a, b, a, b);
                    call(x, name, FLAGS, a, b, b, a);
                    call(x, name, FLAGS, 3, 4, a, b);
                }
            }
        }
    }

    static void inTheStatesThatTheEdgesNeed() {
        StationBook[] books = {new StationBook(), five(ASKING), five(FRESH), five(STALE), five(RESTING), five(TRYING),
            oneOfEach(), claimed(0, 0), claimed(15, 9), claimed(0, 10), claimed(15, 11), doubtful(0, 5, 10, 15),
            crowded(0, 1, 2, 3), routers(12, 13, 14, 15), kept(4)};
        for (StationBook x : books) {
            eachCall(x);
            DUE.is("it still tells the same twice", x.digest(), x.digest());
        }
    }

    static void inTheStatesOfWalks() {
        for (int seed = 0; seed < 60; seed++) {
            List<Walk.Step> steps = Walk.steps(seed);
            for (int calls = 5; calls <= Walk.CALLS; calls += 49) {
                StationBook x = Walk.book(steps, calls);
                eachCall(x);
                DUE.is("it still tells the same twice", x.digest(), x.digest());
            }
        }
    }

    /** What calls behind the 512th answer is free, but they do not throw either. */
    static void farBeyond512Calls() {
        Random random = new Random(99);
        StationBook x = new StationBook();
        String[][] names = {ONE_NUMBER, TWO_NUMBERS, MORE_NUMBERS};
        for (int i = 0; i < 400_000; i++) {
            String[] some = names[random.nextInt(3)];
            boolean[] flags = {random.nextBoolean(), random.nextBoolean(), random.nextBoolean()};
            call(x, some[random.nextInt(some.length)], flags, anyNumber(random), anyNumber(random), anyNumber(random),
                anyNumber(random));
        }
        DUE.is("it still tells the same twice", x.digest(), x.digest());
    }

    private static int anyNumber(Random random) {
        switch (random.nextInt(8)) {
            case 0: return random.nextInt();
            case 1: return Walk.ODD[random.nextInt(Walk.ODD.length)];
            default: return random.nextInt(48);
        }
    }
}

import java.util.Random;

/** All promises: long runs of calls, right and wrong, answered by the class and by PlainBook. The seeds are fixed. */
public final class ModelTest {
    private static final Due DUE = new Due("ModelTest");
    private static final int RUNS = 4000;
    private static final int CALLS = 250;
    private static final int[] ODD = {-2, -1, 0, 1, 4, 9, 15, 16, 47, 48, 99, 100, 200, 201, 999, 1000,
        Integer.MIN_VALUE, Integer.MAX_VALUE};
    private static final String[] CALL = {"pass", "send", "route", "hint", "answered", "asks", "told", "better", "claim",
        "give", "entry", "held", "router", "hop", "out", "about", "count"};

    private static final int[] refused = new int[CALL.length];
    private static final int[] taken = new int[CALL.length];
    private static int doubtfulRuns = 0;

    public static void main(String[] args) {
        for (int run = 0; run < RUNS; run++) {
            oneRun(run);
        }
        for (int call = 0; call < CALL.length; call++) {
            DUE.is(CALL[call] + " was taken in some run", taken[call] > 100 ? 1 : 0, 1);
            DUE.is(CALL[call] + " was refused in some run", refused[call] > 100 ? 1 : 0, 1);
        }
        DUE.is("runs with doubtful routers alone", doubtfulRuns > 100 ? 1 : 0, 1);
        DUE.end();
    }

    private static void oneRun(int run) {
        Random random = new Random(7919L * run + 17);
        StationBook x = new StationBook();
        PlainBook y = new PlainBook();
        int addresses = 3 + random.nextInt(14);
        int goals = 1 + random.nextInt(8);
        int marks = 1 + random.nextInt(4);
        int longest = random.nextBoolean() ? 4 : 20;
        int[] weights = new int[CALL.length];
        for (int i = 0; i < weights.length; i++) {
            weights[i] = i < 10 ? 1 + random.nextInt(12) : 1;
        }
        boolean doubtful = false;
        for (int i = 0; i < CALLS; i++) {
            int call = pick(random, weights);
            int[] a = arguments(random, call, addresses, goals, marks, longest);
            boolean[] b = {random.nextBoolean(), random.nextBoolean(), random.nextInt(4) != 0};
            long got = answer(x, call, a, b);
            long want = answer(y, call, a, b);
            String what = "run " + run + ", call " + i + ", " + CALL[call] + " of " + a[0] + ", " + a[1] + ", " + a[2] + ", " + a[3];
            DUE.is(what, got, want);
            DUE.is("digest() behind " + what, x.digest(), y.digest());
            if (want < -100) {
                refused[call]++;
            } else {
                taken[call]++;
            }
            doubtful |= y.allRoutersDoubtful();
        }
        if (doubtful) {
            doubtfulRuns++;
        }
    }

    private static int pick(Random random, int[] weights) {
        int sum = 0;
        for (int weight : weights) {
            sum += weight;
        }
        int at = random.nextInt(sum);
        int call = 0;
        while (at >= weights[call]) {
            at -= weights[call];
            call++;
        }
        return call;
    }

    private static int[] arguments(Random random, int call, int addresses, int goals, int marks, int longest) {
        int address = random.nextInt(addresses);
        int other = random.nextInt(addresses);
        int goal = 16 + random.nextInt(goals);
        int mark = 1 + random.nextInt(marks);
        int letter = 1 + random.nextInt(999);
        int[] a = switch (CALL[call]) {
            case "pass" -> new int[] {1 + random.nextInt(longest), 0, 0, 0};
            case "send" -> new int[] {address, letter, 0, 0};
            case "route" -> new int[] {goal, letter, 0, 0};
            case "asks" -> new int[] {random.nextInt(3) == 0 ? -1 : address, mark, other, 0};
            case "told" -> new int[] {address, mark, random.nextInt(5) == 0 ? 0 : random.nextInt(60), random.nextInt(3) - 1};
            case "better" -> new int[] {address, goal, other, 0};
            case "hop" -> new int[] {goal, 0, 0, 0};
            case "answered" -> new int[] {address, mark, 0, 0};
            case "router" -> new int[] {random.nextInt(5), random.nextInt(4), 0, 0};
            case "out" -> new int[] {random.nextInt(11), random.nextInt(5), 0, 0};
            case "about", "count" -> new int[] {random.nextInt(9), 0, 0, 0};
            default -> new int[] {address, random.nextInt(8), 0, 0};
        };
        if (random.nextInt(20) == 0) {
            a[random.nextInt(4)] = ODD[random.nextInt(ODD.length)];
        }
        return a;
    }

    private static long answer(StationBook x, int call, int[] a, boolean[] b) {
        return switch (CALL[call]) {
            case "pass" -> x.pass(a[0]);
            case "send" -> x.send(a[0], a[1]);
            case "route" -> x.route(a[0], a[1]);
            case "hint" -> x.hint(a[0]);
            case "answered" -> x.answered(a[0], a[1], b[0], b[1], b[2]);
            case "asks" -> x.asks(a[0], a[1], a[2]);
            case "told" -> x.told(a[0], a[1], a[2], a[3]);
            case "better" -> x.better(a[0], a[1], a[2]);
            case "claim" -> x.claim(a[0]);
            case "give" -> x.give();
            case "entry" -> x.entry(a[0], a[1]);
            case "held" -> x.held(a[0], a[1]);
            case "router" -> x.router(a[0], a[1]);
            case "hop" -> x.hop(a[0]);
            case "out" -> x.out(a[0], a[1]);
            case "about" -> x.about(a[0]);
            default -> x.count(a[0]);
        };
    }

    private static long answer(PlainBook x, int call, int[] a, boolean[] b) {
        return switch (CALL[call]) {
            case "pass" -> x.pass(a[0]);
            case "send" -> x.send(a[0], a[1]);
            case "route" -> x.route(a[0], a[1]);
            case "hint" -> x.hint(a[0]);
            case "answered" -> x.answered(a[0], a[1], b[0], b[1], b[2]);
            case "asks" -> x.asks(a[0], a[1], a[2]);
            case "told" -> x.told(a[0], a[1], a[2], a[3]);
            case "better" -> x.better(a[0], a[1], a[2]);
            case "claim" -> x.claim(a[0]);
            case "give" -> x.give();
            case "entry" -> x.entry(a[0], a[1]);
            case "held" -> x.held(a[0], a[1]);
            case "router" -> x.router(a[0], a[1]);
            case "hop" -> x.hop(a[0]);
            case "out" -> x.out(a[0], a[1]);
            case "about" -> x.about(a[0]);
            default -> x.count(a[0]);
        };
    }
}

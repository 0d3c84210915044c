import java.util.ArrayList;
import java.util.List;
import java.util.Random;

/** Runs of calls, most of them right and some wrong, that can be made again on another book. The seeds are fixed. */
final class Walk {
    static final int WALKS = 240;
    static final int CALLS = 250;
    static final int[] ODD = {Integer.MIN_VALUE, -105, -2, -1, 0, 1, 2, 4, 5, 9, 10, 15, 16, 47, 48, 60, 61, 99, 100,
        200, 201, 999, 1000, Integer.MAX_VALUE};

    /** One call with its numbers, as it would be written. */
    record Step(String name, int[] a, boolean[] b) {
        long on(StationBook x) {
            return switch (name) {
                case "pass" -> x.pass(a[0]);
                case "send" -> x.send(a[0], a[1]);
                case "route" -> x.route(a[0], a[1]);
                case "hint" -> x.hint(a[0]);
                case "answered" -> x.answered(a[0], a[1], b[0], b[1], b[2]);
                case "asks" -> x.asks(a[0], a[1], a[2]);
                case "told" -> x.told(a[0], a[1], a[2], a[3]);
                case "better" -> x.better(a[0], a[1], a[2]);
                case "claim" -> x.claim(a[0]);
                case "give" -> x.give();
                case "entry" -> x.entry(a[0], a[1]);
                case "held" -> x.held(a[0], a[1]);
                case "router" -> x.router(a[0], a[1]);
                case "hop" -> x.hop(a[0]);
                case "out" -> x.out(a[0], a[1]);
                case "about" -> x.about(a[0]);
                case "count" -> x.count(a[0]);
                case "digest" -> x.digest();
                default -> throw new IllegalArgumentException(name);
            };
        }

        boolean is(String other) {
            return name.equals(other);
        }

        @Override
        public String toString() {
            String flags = is("answered") ? ", " + b[0] + ", " + b[1] + ", " + b[2] : "";
            return name + " of " + a[0] + ", " + a[1] + ", " + a[2] + ", " + a[3] + flags;
        }
    }

    /** What is looked at behind each call of each walk. */
    interface Look {
        void at(String what, StationBook x);
    }

    /** What is looked at around each call of each walk: what was told before it, its answer, the book behind it. */
    interface Change {
        void of(String what, Seen before, Step step, long answer, StationBook x);
    }

    private static final String[] CHANGING = {"pass", "send", "route", "hint", "answered", "asks", "told", "better",
        "claim", "give"};

    private final Random random;
    private final int addresses;
    private final int goals;
    private final int marks;
    private final int longest;
    private final int longestLife;
    private final int mine;
    private final int[] weights = new int[CHANGING.length];

    private Walk(int seed) {
        random = new Random(104729L * seed + 5);
        addresses = 2 + random.nextInt(15);
        goals = 1 + random.nextInt(6);
        marks = 1 + random.nextInt(4);
        longest = random.nextBoolean() ? 3 : 15;
        longestLife = random.nextBoolean() ? 60 : 200;
        mine = random.nextInt(16);
        for (int i = 0; i < weights.length; i++) {
            weights[i] = 1 + random.nextInt(10);
        }
    }

    static List<Step> steps(int seed) {
        Walk walk = new Walk(seed);
        List<Step> steps = new ArrayList<>();
        for (int i = 0; i < CALLS; i++) {
            steps.add(walk.step());
        }
        return steps;
    }

    /** The book behind the first calls of a walk. */
    static StationBook book(List<Step> steps, int calls) {
        StationBook x = new StationBook();
        for (int i = 0; i < calls; i++) {
            steps.get(i).on(x);
        }
        return x;
    }

    static void everywhere(Look look) {
        for (int seed = 0; seed < WALKS; seed++) {
            StationBook x = new StationBook();
            int calls = 0;
            for (Step step : steps(seed)) {
                step.on(x);
                calls++;
                look.at("walk " + seed + " behind call " + calls + ", " + step, x);
            }
        }
    }

    static void aroundEachCall(Change change) {
        for (int seed = 0; seed < WALKS; seed++) {
            StationBook x = new StationBook();
            int calls = 0;
            for (Step step : steps(seed)) {
                calls++;
                Seen before = new Seen(x);
                long answer = step.on(x);
                change.of("walk " + seed + ", call " + calls + ", " + step, before, step, answer, x);
            }
        }
    }

    private Step step() {
        String name = pick();
        int[] a = numbers(name);
        if (random.nextInt(12) == 0) {
            a[random.nextInt(4)] = ODD[random.nextInt(ODD.length)];
        }
        boolean[] b = {random.nextBoolean(), random.nextBoolean(), random.nextInt(4) != 0};
        return new Step(name, a, b);
    }

    private String pick() {
        int sum = 0;
        for (int weight : weights) {
            sum += weight;
        }
        int at = random.nextInt(sum);
        int call = 0;
        while (at >= weights[call]) {
            at -= weights[call];
            call++;
        }
        return CHANGING[call];
    }

    private int[] numbers(String name) {
        int address = random.nextInt(addresses);
        int other = random.nextInt(addresses);
        // An ADDRESS that is tried again and again, and asked for, or what OWN answers would hardly be seen.
        int claimed = random.nextInt(3) == 0 ? other : mine;
        int goal = 16 + random.nextInt(goals);
        int mark = 1 + random.nextInt(marks);
        int letter = 1 + random.nextInt(999);
        int life = random.nextInt(5) == 0 ? 0 : 1 + random.nextInt(longestLife);
        return switch (name) {
            case "pass" -> new int[] {1 + random.nextInt(longest), 0, 0, 0};
            case "send" -> new int[] {address, letter, 0, 0};
            case "route" -> new int[] {goal, letter, 0, 0};
            case "asks" -> new int[] {random.nextInt(3) == 0 ? -1 : address, mark, claimed, 0};
            case "told" -> new int[] {address, mark, life, random.nextInt(3) - 1};
            case "better" -> new int[] {address, goal, other, 0};
            case "claim" -> new int[] {claimed, 0, 0, 0};
            default -> new int[] {address, mark, 0, 0};
        };
    }
}

import java.util.Arrays;
import java.util.List;

/**
 * Promises 2 to 19, a method each (12 to 17 share one), around each call of many walks: what was told before it says what
 * the call must answer, when it must be refused, and what is told behind it. What "Terms" says is looked at by TermsTest.
 */
public final class PromisesTest extends Books {
    private static final Due DUE = new Due("PromisesTest");
    private static final int MANY = 100;

    public static void main(String[] args) {
        DUE.all(PromisesTest.class);
    }

    private static void yes(String what, boolean is) {
        DUE.is(what, is ? 1 : 0, 1);
    }

    private static boolean within(int number, int low, int high) {
        return number >= low && number <= high;
    }

    private static boolean isAddress(int number) {
        return within(number, 0, 15);
    }

    private static boolean isGoal(int number) {
        return within(number, 16, 47);
    }

    private static boolean isMark(int number) {
        return within(number, 1, 99);
    }

    private static boolean isLetter(int number) {
        return within(number, 1, 999);
    }

    private static boolean isOwnOrTrial(Seen before, int address) {
        return address != NONE && (address == before.about[1] || address == before.about[2]);
    }

    /** How often each answer was seen, so that a test that never saw one of them fails. */
    private static final class Answers {
        private final java.util.Map<Long, Integer> seen = new java.util.TreeMap<>();

        void add(long answer) {
            seen.merge(answer, 1, Integer::sum);
        }

        void were(int least, long... answers) {
            for (long answer : answers) {
                yes("answer " + answer + " was among them often enough", seen.getOrDefault(answer, 0) >= least);
            }
        }
    }

    /** What is looked at around each call of one name. */
    private interface Around {
        void at(String what, Seen before, int[] a, boolean[] b, long answer, Seen now);
    }

    private static Answers around(String name, Around look) {
        Answers answers = new Answers();
        Walk.aroundEachCall((what, before, step, answer, x) -> {
            if (step.is(name)) {
                answers.add(answer);
                look.at(what, before, step.a(), step.b(), answer, new Seen(x));
            }
        });
        return answers;
    }

    private static void sameEntriesBut(String what, Seen before, Seen now, int... others) {
        for (int address = 0; address < 16; address++) {
            int one = address;
            if (Arrays.stream(others).noneMatch(other -> other == one)) {
                yes(what + ": entry " + address + " is as before", Arrays.equals(before.entry[address], now.entry[address])
                    && Arrays.equals(before.held[address], now.held[address]));
            }
        }
    }

    private static void sameRoutersBut(String what, Seen before, Seen now, int other) {
        for (int address = 0; address < 16; address++) {
            int[] was = before.routerAt(address);
            int[] is = now.routerAt(address);
            if (address != other) {
                yes(what + ": router " + address + " is as before", was == null ? is == null
                    : is != null && was[1] == is[1] && was[2] == is[2]);
            }
        }
    }

    private static void sameAboutBut(String what, Seen before, Seen now, int... others) {
        for (int i = 0; i < before.about.length; i++) {
            int one = i;
            if (Arrays.stream(others).noneMatch(other -> other == one)) {
                DUE.is(what + ": about(" + i + ") is as before", now.about[i], before.about[i]);
            }
        }
    }

    private static void nothingGoesOut(String what, Seen before, Seen now) {
        DUE.is(what + ": nothing goes out", now.count[6], before.count[6]);
    }

    /** Of a refused call: true, and it was due; else the answer must be none of a refusal. */
    private static boolean refused(String what, long answer, int due) {
        if (due != 0) {
            DUE.is(what + ": refused", answer, due);
            return true;
        }
        yes(what + ": not refused, but answered " + answer, answer > -100);
        return answer <= -100;
    }

    // ---- time

    static void promise02Pass() {
        around("pass", (what, before, a, b, answer, now) -> {
            if (!refused(what, answer, within(a[0], 1, 60) ? 0 : OUTSIDE)) {
                DUE.is(what, answer, before.clock() + a[0]);
                DUE.is(what + ": about(0)", now.clock(), answer);
            }
        }).were(50, OUTSIDE);
    }

    static void promise02PassOfManyIsAsManyPasses() {
        for (int seed = 0; seed < Walk.WALKS; seed++) {
            List<Walk.Step> steps = Walk.steps(seed);
            for (int calls = 7; calls <= Walk.CALLS; calls += 40) {
                int n = 1 + (seed + calls) % 60;
                StationBook x = Walk.book(steps, calls);
                StationBook y = Walk.book(steps, calls);
                x.pass(n);
                for (int i = 0; i < n; i++) {
                    y.pass(1);
                }
                DUE.is("walk " + seed + " behind call " + calls + ", pass(" + n + ")", x.digest(), y.digest());
            }
        }
    }

    // ---- letters

    static void promise03Send() {
        around("send", (what, before, a, b, answer, now) -> {
            int due = !isAddress(a[0]) || !isLetter(a[1]) ? OUTSIDE : isOwnOrTrial(before, a[0]) ? STATE
                : !before.has(a[0]) && !before.hasRoom() ? FULL : 0;
            if (!refused(what, answer, due)) {
                letterAnswer(what, before, a[0], answer, now);
                sameAboutBut(what, before, now);
            }
        }).were(40, 0, 1, 2, OUTSIDE, STATE, FULL);
    }

    private static void letterAnswer(String what, Seen before, int to, long answer, Seen now) {
        int waited = before.has(to) ? before.held[to].length : 0;
        DUE.is(what, answer, before.state(to) > ASKING ? 0 : waited == 3 ? 2 : 1);
        int went = !before.has(to) && before.count[0] == 5 ? before.wouldGo() : NONE;
        sameEntriesBut(what, before, now, to, went);
        sameRoutersBut(what, before, now, NONE);
    }

    static void promise04Route() {
        Kept kept = new Kept();
        int[] turns = new int[1];
        Walk.aroundEachCall((what, before, step, answer, x) -> {
            Seen now = new Seen(x);
            if (step.is("route")) {
                turns[0] += route(what, before, kept, step.a(), answer, now);
            }
            kept.follow(before, step, answer, now);
        });
        yes("turns were among them", turns[0] > MANY);
        around("route", (what, before, a, b, answer, now) -> { }).were(20, 0, 1, 2, OUTSIDE, STATE, FULL);
    }

    /** 1: it was taken in TURN. */
    private static int route(String what, Seen before, Kept kept, int[] a, long answer, Seen now) {
        boolean isRight = isGoal(a[0]) && isLetter(a[1]);
        int hop = isRight ? before.hop[a[0] - 16] : NONE;
        int due = !isRight ? OUTSIDE : hop == NONE ? STATE : !before.has(hop) && !before.hasRoom() ? FULL : 0;
        if (refused(what, answer, due)) {
            return 0;
        }
        letterAnswer(what, before, hop, answer, now);
        sameAboutBut(what, before, now, 5);
        boolean isKept = before.count[2] > 0 && kept.hopOf(a[0]) != NONE;
        boolean inTurn = !isKept && before.routers.get(0)[3] == 0;
        DUE.is(what + ": taken in turn last", now.about[5], inTurn ? hop : before.about[5]);
        return inTurn ? 1 : 0;
    }

    static void promise05Hint() {
        around("hint", (what, before, a, b, answer, now) -> {
            if (refused(what, answer, isAddress(a[0]) ? 0 : OUTSIDE)) {
                return;
            }
            int state = before.state(a[0]);
            DUE.is(what, answer, state > ASKING ? FRESH : state);
            nothingGoesOut(what, before, now);
            if (state > ASKING) {
                entryIs(what, before, now, a[0], FRESH, before.mark(a[0]), before.clock() + 30);
            }
            sameEntriesBut(what, before, now, state > ASKING ? a[0] : NONE);
            sameRoutersBut(what, before, now, NONE);
            sameAboutBut(what, before, now);
        }).were(50, NONE, ASKING, FRESH, OUTSIDE);
    }

    /** STATE, MARK and END as told, no TRIES, none HELD, and USED as before. */
    private static void entryIs(String what, Seen before, Seen now, int address, int state, int mark, int end) {
        int[] is = now.entry[address];
        yes(what + ": it has an entry", is != null);
        int[] due = {state, mark, end, 0, 0, now.isRouter(address) ? 1 : 0, before.entry[address][6], NONE};
        yes(what + ": entry is " + Arrays.toString(is) + ", due is " + Arrays.toString(due), Arrays.equals(is, due));
    }

    // ---- what is heard

    static void promise06Answered() {
        int[] seen = new int[2];
        around("answered", (what, before, a, b, answer, now) -> {
            if (refused(what, answer, isAddress(a[0]) && isMark(a[1]) ? 0 : OUTSIDE)) {
                return;
            }
            boolean wasTrial = a[0] == before.about[2];
            DUE.is(what + ": trial", now.about[2], wasTrial ? NONE : before.about[2]);
            DUE.is(what + ": doubled", now.about[4], before.about[4] | (wasTrial ? 1 << a[0] : 0));
            sameAboutBut(what, before, now, 2, 3, 4);
            sameEntriesBut(what, before, now, a[0]);
            sameRoutersBut(what, before, now, a[0]);
            seen[0] += wasTrial ? 1 : 0;
            seen[1] += before.has(a[0]) && before.isRouter(a[0]) && !b[2] ? 1 : 0;
            if (before.has(a[0])) {
                answeredEntry(what, before, a, b, now);
                DUE.is(what, answer, now.state(a[0]));
                yes(what + ": router", now.isRouter(a[0]) == (before.isRouter(a[0]) && b[2]));
            } else {
                DUE.is(what, answer, NONE);
                yes(what + ": no entry comes", !now.has(a[0]));
                yes(what + ": a router without an entry stays one", now.isRouter(a[0]) == before.isRouter(a[0]));
            }
        }).were(50, NONE, FRESH, STALE, RESTING, TRYING, OUTSIDE);
        yes("trials were among them", seen[0] > 20);
        yes("routers were among them", seen[1] > MANY);
    }

    private static void answeredEntry(String what, Seen before, int[] a, boolean[] b, Seen now) {
        int address = a[0];
        int[] was = before.entry[address];
        boolean asked = b[0];
        boolean over = b[1];
        boolean unlike = was[1] != a[1];
        int later = before.clock() + 30;
        int[] held = before.held[address];
        DUE.is(what + ": so many go out", now.count[6], before.count[6] + held.length);
        if (was[0] == ASKING) {
            entryIs(what, before, now, address, asked ? FRESH : STALE, a[1], asked ? later : NONE);
            for (int i = 0; i < held.length; i++) {
                int[] due = {LETTER, address, a[1], held[i], before.clock()};
                yes(what + ": held " + i, Arrays.equals(now.outs.get(held.length - 1 - i), due));
            }
        } else if (unlike && !over && was[0] == FRESH) {
            entryIs(what, before, now, address, STALE, was[1], NONE);
        } else if (asked && (over || !unlike)) {
            entryIs(what, before, now, address, FRESH, a[1], later);
        } else if (unlike && over) {
            entryIs(what, before, now, address, STALE, a[1], NONE);
        } else {
            for (int i : new int[] {0, 1, 2, 3, 4, 6, 7}) {
                DUE.is(what + ": entry(" + i + ") stays", now.entry[address][i], was[i]);
            }
        }
    }

    static void promise07Asks() {
        int[] seen = new int[2];
        around("asks", (what, before, a, b, answer, now) -> {
            boolean nameless = a[0] == NONE;
            boolean isRight = (nameless || isAddress(a[0])) && isMark(a[1]) && isAddress(a[2]);
            if (refused(what, answer, !isRight ? OUTSIDE : isOwnOrTrial(before, a[0]) ? STATE : 0)) {
                return;
            }
            boolean forOwn = a[2] == before.about[1];
            boolean doubles = a[2] == before.about[2] && nameless;
            DUE.is(what, answer, forOwn ? 1 : doubles ? 2 : 0);
            DUE.is(what + ": trial", now.about[2], doubles ? NONE : before.about[2]);
            DUE.is(what + ": doubled", now.about[4], before.about[4] | (doubles ? 1 << a[2] : 0));
            sameAboutBut(what, before, now, 2, 3, 4);
            sameRoutersBut(what, before, now, NONE);
            if (forOwn) {
                seen[nameless ? 0 : 1]++;
                int[] due = {ANSWER, a[0], nameless ? 0 : a[1], 0, before.clock()};
                yes(what + ": the latest is the answer", Arrays.equals(now.outs.get(0), due));
            } else {
                nothingGoesOut(what, before, now);
            }
            if (nameless || !forOwn) {
                sameEntriesBut(what, before, now);
                DUE.is(what + ": so many go out", now.count[6] - before.count[6], forOwn ? 1 : 0);
            }
        }).were(20, 0, 1, 2, OUTSIDE, STATE);
        yes("answers to all were among them", seen[0] > 20);
        yes("answers to one were among them", seen[1] > 20);
    }

    static void promise08Told() {
        around("told", (what, before, a, b, answer, now) -> {
            boolean isRight = isAddress(a[0]) && isMark(a[1]) && within(a[2], 0, 200) && within(a[3], -1, 1);
            int due = !isRight ? OUTSIDE : isOwnOrTrial(before, a[0]) ? STATE
                : a[2] > 0 && !before.isRouter(a[0]) && before.routers.size() == 4 ? FULL : 0;
            if (refused(what, answer, due)) {
                return;
            }
            DUE.is(what, answer, now.routers.size());
            int[] is = now.routerAt(a[0]);
            if (a[2] == 0) {
                yes(what + ": it is one no more", is == null);
            } else {
                yes(what + ": it is one", is != null && is[1] == a[3] && is[2] == before.clock() + a[2]);
            }
            int went = !before.has(a[0]) && before.count[0] == 5 ? before.wouldGo() : NONE;
            sameEntriesBut(what, before, now, a[0], went);
            sameRoutersBut(what, before, now, a[0]);
            sameAboutBut(what, before, now);
        }).were(50, 0, 1, 2, 3, 4, OUTSIDE, STATE, FULL);
    }

    static void promise09Better() {
        around("better", (what, before, a, b, answer, now) -> {
            boolean isRight = isAddress(a[0]) && isGoal(a[1]) && isAddress(a[2]);
            if (refused(what, answer, !isRight ? OUTSIDE : isOwnOrTrial(before, a[2]) ? STATE : 0)) {
                return;
            }
            boolean isBelieved = before.hop[a[1] - 16] == a[0];
            DUE.is(what, answer, isBelieved ? 1 : 0);
            DUE.is(what + ": hop", now.hop[a[1] - 16], isBelieved ? a[2] : before.hop[a[1] - 16]);
            nothingGoesOut(what, before, now);
            sameEntriesBut(what, before, now);
            sameRoutersBut(what, before, now, NONE);
            sameAboutBut(what, before, now);
        }).were(40, 0, 1, OUTSIDE, STATE);
    }

    // ---- an address of its own

    static void promise10Claim() {
        Kept kept = new Kept();
        int[] hops = new int[1];
        Walk.aroundEachCall((what, before, step, answer, x) -> {
            Seen now = new Seen(x);
            if (step.is("claim")) {
                int address = step.a()[0];
                boolean isHop = before.count[2] > 0 && kept.leadTo(address);
                hops[0] += isHop && before.about[1] == NONE && before.about[2] == NONE && !before.has(address) ? 1 : 0;
                claim(what, before, isHop, address, answer, now);
            }
            kept.follow(before, step, answer, now);
        });
        yes("kept hops were among them", hops[0] > 5);
        around("claim", (what, before, a, b, answer, now) -> { }).were(50, OUTSIDE, STATE);
    }

    private static void claim(String what, Seen before, boolean isHop, int address, long answer, Seen now) {
        int due = 0;
        if (!isAddress(address)) {
            due = OUTSIDE;
        } else if (before.about[1] != NONE || before.about[2] != NONE || (before.about[4] & 1 << address) != 0
            || before.has(address) || before.isRouter(address) || isHop) {
            due = STATE;
        }
        if (refused(what, answer, due)) {
            return;
        }
        DUE.is(what, answer, before.clock() + 10);
        DUE.is(what + ": trial", now.about[2], address);
        DUE.is(what + ": its tick", now.about[3], answer);
        DUE.is(what + ": one goes out", now.count[6], before.count[6] + 1);
        yes(what + ": the trial goes out", Arrays.equals(now.outs.get(0), new int[] {TRIAL, address, 0, 0, before.clock()}));
        sameAboutBut(what, before, now, 2, 3);
        sameEntriesBut(what, before, now);
        sameRoutersBut(what, before, now, NONE);
    }

    static void promise11Give() {
        int[] seen = new int[2];
        around("give", (what, before, a, b, answer, now) -> {
            int mine = Math.max(before.about[1], before.about[2]);
            if (refused(what, answer, mine == NONE ? STATE : 0)) {
                return;
            }
            seen[before.about[1] == NONE ? 0 : 1]++;
            DUE.is(what, answer, mine);
            DUE.is(what + ": own", now.about[1], NONE);
            DUE.is(what + ": trial", now.about[2], NONE);
            DUE.is(what + ": its tick", now.about[3], NONE);
            sameAboutBut(what, before, now, 1, 2, 3);
            sameEntriesBut(what, before, now);
            sameRoutersBut(what, before, now, NONE);
            nothingGoesOut(what, before, now);
        }).were(50, STATE);
        yes("trials were among them", seen[0] > 20);
        yes("own ones were among them", seen[1] > 20);
    }

    // ---- what is told, and what is told of all

    static void promises12To17TellNothingElse() {
        Walk.everywhere((what, x) -> {
            Seen now = new Seen(x);
            for (int address = 0; address < 16; address++) {
                int refusal = now.has(address) ? OUTSIDE : UNKNOWN;
                DUE.is(what + ": entry(" + address + ", 8)", x.entry(address, 8), refusal);
                DUE.is(what + ": entry(" + address + ", -1)", x.entry(address, -1), refusal);
                DUE.is(what + ": held(" + address + ", -1)", x.held(address, -1), UNKNOWN);
                int many = now.has(address) ? now.held[address].length : 0;
                DUE.is(what + ": held(" + address + ", " + many + ")", x.held(address, many), UNKNOWN);
            }
            DUE.is(what + ": router(0, 4)", x.router(0, 4), now.routers.isEmpty() ? UNKNOWN : OUTSIDE);
            DUE.is(what + ": router(-1, 0)", x.router(-1, 0), UNKNOWN);
            DUE.is(what + ": router() behind the last", x.router(now.routers.size(), 0), UNKNOWN);
            DUE.is(what + ": hop(15)", x.hop(15), OUTSIDE);
            DUE.is(what + ": hop(48)", x.hop(48), OUTSIDE);
            DUE.is(what + ": out(0, 5)", x.out(0, 5), OUTSIDE);
            DUE.is(what + ": out(-1, 0)", x.out(-1, 0), UNKNOWN);
            DUE.is(what + ": out() behind the last", x.out(now.outs.size(), 5), UNKNOWN);
            DUE.is(what + ": about(6)", x.about(6), OUTSIDE);
            DUE.is(what + ": count(9)", x.count(9), OUTSIDE);
            DUE.is(what + ": telling changes nothing", x.digest(), now.digest);
        });
    }

    static void promise18Count() {
        Walk.aroundEachCall((what, before, step, answer, x) -> {
            Seen now = new Seen(x);
            int held = 0;
            int fresh = 0;
            for (int address = 0; address < 16; address++) {
                held += now.has(address) ? now.held[address].length : 0;
                fresh += now.state(address) == FRESH ? 1 : 0;
            }
            DUE.is(what + ": held", now.count[3], held);
            DUE.is(what + ": fresh", now.count[8], fresh);
            int more = now.count[6] - before.count[6];
            if (more <= now.outs.size()) {
                long letters = now.outs.stream().limit(more).filter(out -> out[0] == LETTER).count();
                DUE.is(what + ": letters that went out", now.count[5] - before.count[5], letters);
            }
        });
    }

    static void promise19Digest() {
        Walk.everywhere((what, x) -> {
            Seen now = new Seen(x);
            long h = mix(1523L, now.about);
            for (int address = 0; address < 16; address++) {
                h = now.has(address) ? mix(mix(h, now.entry[address]), now.held[address]) : mix(h, NONE);
            }
            for (int[] router : now.routers) {
                h = mix(h, router);
            }
            h = mix(h, now.hop[0], now.hop[1], now.hop[2], now.hop[3]);
            for (int[] out : now.outs) {
                h = mix(h, out);
            }
            DUE.is(what + ": digest()", now.digest, mix(h, now.count));
        });
    }

    private static long mix(long start, int... numbers) {
        long h = start;
        for (int number : numbers) {
            h = 31 * h + number;
        }
        return h;
    }
}

import java.util.ArrayList;
import java.util.Arrays;
import java.util.List;

/**
 * "Terms", a method per sentence, looked at behind each call of many walks, and by what the book tells alone:
 * nothing here keeps a book of its own but for what is told nowhere (which HOPS are kept, whether a ROUTER was made).
 */
public final class TermsTest extends Books {
    private static final Due DUE = new Due("TermsTest");

    public static void main(String[] args) {
        DUE.all(TermsTest.class);
    }

    private static void yes(String what, boolean is) {
        DUE.is(what, is ? 1 : 0, 1);
    }

    private static boolean within(int number, int low, int high) {
        return number >= low && number <= high;
    }

    /** Something to look at for each ENTRY of each book: its ADDRESS and what entry() tells of it. */
    private interface OfEntry {
        void at(String what, StationBook x, int address, int[] told);
    }

    private static void eachEntry(OfEntry look) {
        Walk.everywhere((what, x) -> {
            Seen now = new Seen(x);
            for (int address = 0; address < 16; address++) {
                if (now.has(address)) {
                    look.at(what + ", entry " + address, x, address, now.entry[address]);
                }
            }
        });
    }

    private static void eachRouter(OfEntry look) {
        Walk.everywhere((what, x) -> {
            for (int[] router : new Seen(x).routers) {
                look.at(what + ", router " + router[0], x, router[0], router);
            }
        });
    }

    private static void eachOut(OfEntry look) {
        Walk.everywhere((what, x) -> {
            for (int[] out : new Seen(x).outs) {
                look.at(what + ", out of sort " + out[0], x, out[1], out);
            }
        });
    }

    // ---- ENTRIES

    static void entriesAreFiveAtMost() {
        int[] seen = new int[6];
        Walk.everywhere((what, x) -> {
            int many = 0;
            for (int address = 0; address < 16; address++) {
                many += x.entry(address, 0) >= 0 ? 1 : 0;
            }
            DUE.is(what + ": count(0)", x.count(0), many);
            yes(what + ": five at most", many <= 5);
            seen[Math.min(many, 5)]++;
        });
        for (int many = 0; many <= 5; many++) {
            yes("books with " + many + " were among them", seen[many] > 100);
        }
    }

    static void aStateIs0To4() {
        int[] seen = new int[5];
        eachEntry((what, x, address, told) -> {
            yes(what + ": state", within(told[0], 0, 4));
            seen[told[0]]++;
        });
        for (int state : STATES) {
            yes("state " + state + " was among them", seen[state] > 100);
        }
    }

    static void aMarkIsNoneWhileItIsAskingElse1To99() {
        eachEntry((what, x, address, told) ->
            yes(what + ": mark", told[0] == ASKING ? told[1] == 0 : within(told[1], 1, 99)));
    }

    static void anEndIsAheadAndAStaleOneHasNone() {
        int[] longest = {6, 30, 0, 5, 4};
        eachEntry((what, x, address, told) -> {
            int now = x.about(0);
            yes(what + ": end", told[0] == STALE ? told[2] == NONE : within(told[2], now + 1, now + longest[told[0]]));
        });
    }

    static void triesAre1To3ByAskingAndTryingElse0() {
        eachEntry((what, x, address, told) ->
            yes(what + ": tries", told[0] == ASKING || told[0] == TRYING ? within(told[3], 1, 3) : told[3] == 0));
    }

    static void heldAreThreeAtMostAndOnlyOfAnAskingOne() {
        eachEntry((what, x, address, told) -> {
            yes(what + ": held", told[0] == ASKING ? within(told[4], 1, 3) : told[4] == 0);
            for (int place = 0; place < told[4]; place++) {
                yes(what + ": letter", within(x.held(address, place), 1, 999));
            }
            DUE.is(what + ": no more are held", x.held(address, told[4]), UNKNOWN);
        });
    }

    static void usedIsTheTickItCameOrALetterToItWasTold() {
        Walk.aroundEachCall((what, before, step, answer, x) -> {
            int to = letterTo(before, step, answer);
            for (int address = 0; address < 16; address++) {
                if (x.entry(address, 0) >= 0) {
                    boolean isNow = !before.has(address) || address == to;
                    DUE.is(what + ": used of " + address, x.entry(address, 6), isNow ? x.about(0) : before.entry[address][6]);
                }
            }
        });
    }

    /** To which ADDRESS a LETTER was told by this call; NONE if it was another call, or refused. */
    private static int letterTo(Seen before, Walk.Step step, long answer) {
        if (answer < 0) {
            return NONE;
        }
        if (step.is("send")) {
            return step.a()[0];
        }
        return step.is("route") ? before.hop[step.a()[0] - 16] : NONE;
    }

    // ---- OUT

    static void whatASortHasNotIs0() {
        int[] seen = new int[6];
        eachOut((what, x, address, out) -> {
            boolean toAll = out[0] == SOLICIT || out[0] == ANSWER && out[2] == 0;
            boolean hasMark = out[0] == LETTER || out[0] == PROBE || out[0] == ANSWER && !toAll;
            yes(what + ": address", toAll ? address == NONE : within(address, 0, 15));
            yes(what + ": mark", hasMark ? within(out[2], 1, 99) : out[2] == 0);
            yes(what + ": letter", out[0] == LETTER ? within(out[3], 1, 999) : out[3] == 0);
            yes(what + ": tick", within(out[4], 0, x.about(0)));
            seen[out[0]]++;
        });
        for (int sort = 0; sort < seen.length; sort++) {
            yes("sort " + sort + " was among them", seen[sort] > 100);
        }
    }

    static void theLatestTenAreKept() {
        Walk.aroundEachCall((what, before, step, answer, x) -> {
            Seen now = new Seen(x);
            int more = now.count[6] - before.count[6];
            DUE.is(what + ": kept", now.outs.size(), Math.min(10, now.count[6]));
            for (int place = 0; place < now.outs.size(); place++) {
                boolean isNew = place < more;
                yes(what + ": out " + place, isNew ? now.outs.get(place)[4] > before.clock() || !step.is("pass")
                    : Arrays.equals(now.outs.get(place), before.outs.get(place - more)));
            }
        });
    }

    static void theLatestOneStandsFirst() {
        Walk.everywhere((what, x) -> {
            for (int place = 1; x.out(place, 4) >= 0; place++) {
                yes(what + ": out " + place, x.out(place, 4) <= x.out(place - 1, 4));
            }
        });
    }

    // ---- ROUTERS

    static void routersAreFourAtMost() {
        int[] seen = new int[5];
        Walk.everywhere((what, x) -> {
            int many = new Seen(x).routers.size();
            DUE.is(what + ": count(1)", x.count(1), many);
            yes(what + ": four at most", many <= 4);
            seen[Math.min(many, 4)]++;
        });
        for (int many = 0; many <= 4; many++) {
            yes("books with " + many + " were among them", seen[many] > 100);
        }
    }

    static void aRouterHasARankAndATickThatIsAhead() {
        eachRouter((what, x, address, told) -> {
            yes(what + ": address", within(address, 0, 15));
            yes(what + ": rank", within(told[1], -1, 1));
            yes(what + ": tick", within(told[2], x.about(0) + 1, x.about(0) + 200));
            if (x.entry(address, 0) >= 0) {
                DUE.is(what + ": entry() tells it too", x.entry(address, 5), 1);
            }
        });
    }

    static void aRouterIsGoodIfItHasAnEntryThatIsNotAsking() {
        eachRouter((what, x, address, told) -> DUE.is(what + ": good", told[3], x.entry(address, 0) > ASKING ? 1 : 0));
    }

    static void goodOnesComeFirstThenTheGreaterRankThenTheLesserAddress() {
        Walk.everywhere((what, x) -> {
            List<int[]> routers = new Seen(x).routers;
            for (int place = 1; place < routers.size(); place++) {
                int[] a = routers.get(place - 1);
                int[] b = routers.get(place);
                boolean rightOrder = a[3] != b[3] ? a[3] > b[3] : a[1] != b[1] ? a[1] > b[1] : a[0] < b[0];
                yes(what + ": router " + place, rightOrder);
            }
        });
    }

    // ---- HOP

    private static int dueHop(Kept kept, Seen now, int goal) {
        if (kept.hopOf(goal) != NONE) {
            return kept.hopOf(goal);
        }
        if (now.routers.isEmpty()) {
            return NONE;
        }
        if (now.routers.get(0)[3] == 1) {
            return now.routers.get(0)[0];
        }
        int least = now.routers.stream().mapToInt(router -> router[0]).min().getAsInt();
        return now.routers.stream().mapToInt(router -> router[0]).filter(a -> a > now.about[5]).min().orElse(least);
    }

    static void aHopIsTheKeptOneElseTheFirstGoodRouterElseTheOneInTurn() {
        Kept kept = new Kept();
        int[] seen = new int[5];
        Walk.aroundEachCall((what, before, step, answer, x) -> {
            Seen now = new Seen(x);
            kept.follow(before, step, answer, now);
            DUE.is(what + ": kept", now.count[2], kept.size());
            seen[kept.size()]++;
            for (int goal = 16; goal <= 47; goal++) {
                DUE.is(what + ": hop(" + goal + ")", now.hop[goal - 16], dueHop(kept, now, goal));
            }
        });
        for (int many = 0; many <= 4; many++) {
            yes("books with " + many + " kept were among them", seen[many] > 100);
        }
    }

    static void theTurnIsTakenByRouteAlone() {
        int[] taken = new int[1];
        Walk.aroundEachCall((what, before, step, answer, x) -> {
            int now = x.about(5);
            if (now == before.about[5]) {
                return;
            }
            taken[0]++;
            yes(what + ": taken by route()", step.is("route") && answer >= 0);
            DUE.is(what + ": the hop was taken", now, before.hop[step.a()[0] - 16]);
            yes(what + ": no router was good", before.routers.get(0)[3] == 0);
        });
        yes("the turn was among them", taken[0] > 100);
    }

    // ---- OWN, TRIAL, DOUBLED

    static void noEntryNoRouterNoHopIsEverOfOwnOrTrial() {
        int[] seen = new int[2];
        Walk.everywhere((what, x) -> {
            int own = x.about(1);
            int trial = x.about(2);
            yes(what + ": not both", own == NONE || trial == NONE);
            int mine = own == NONE ? trial : own;
            if (mine == NONE) {
                return;
            }
            seen[own == NONE ? 0 : 1]++;
            Seen now = new Seen(x);
            yes(what + ": no entry", !now.has(mine));
            yes(what + ": no router", !now.isRouter(mine));
            yes(what + ": no hop", Arrays.stream(now.hop).noneMatch(hop -> hop == mine));
        });
        yes("trials were among them", seen[0] > 100);
        yes("own ones were among them", seen[1] > 100);
    }

    static void ownComesFromATrialOf10TicksAlone() {
        Walk.aroundEachCall((what, before, step, answer, x) -> {
            if (x.about(1) != NONE && before.about[1] == NONE) {
                yes(what + ": by time", step.is("pass"));
                DUE.is(what + ": it was tried", x.about(1), before.about[2]);
                yes(what + ": till its tick", within(before.about[3], before.clock() + 1, x.about(0)));
            }
            boolean tried = x.about(2) != NONE;
            yes(what + ": its tick", tried ? within(x.about(3), x.about(0) + 1, x.about(0) + 10) : x.about(3) == NONE);
        });
    }

    static void whatIsDoubledStaysSoAndIsNeverUsed() {
        int[] doubled = new int[1];
        Walk.aroundEachCall((what, before, step, answer, x) -> {
            int now = x.about(4);
            int more = now & ~before.about[4];
            DUE.is(what + ": it stays so", now & before.about[4], before.about[4]);
            if (more != 0) {
                doubled[0]++;
                DUE.is(what + ": it was the trial", more, 1 << before.about[2]);
                DUE.is(what + ": there is no trial any more", x.about(2), NONE);
                yes(what + ": by another one", step.is("answered") || step.is("asks") && step.a()[0] == NONE);
            }
            for (int mine : new int[] {x.about(1), x.about(2)}) {
                yes(what + ": never used", mine == NONE || (now & 1 << mine) == 0);
            }
        });
        yes("doubled ones were among them", doubled[0] > 50);
    }

    // ---- who is GONE

    static void withoutTimeOnlyTheStaleOneUsedLeastIsGoneAndOnlyForAnother() {
        int[] gone = new int[1];
        Walk.aroundEachCall((what, before, step, answer, x) -> {
            if (step.is("pass")) {
                return;
            }
            for (int address = 0; address < 16; address++) {
                if (before.has(address) && x.entry(address, 0) == UNKNOWN) {
                    gone[0]++;
                    DUE.is(what + ": who is gone", address, before.wouldGo());
                    DUE.is(what + ": there were five", before.count[0], 5);
                    DUE.is(what + ": there are five", x.count(0), 5);
                }
            }
        });
        yes("such ones were among them", gone[0] > 100);
    }

    static void withOneThatIsGoneItsHeldAreLost() {
        int[] lost = new int[1];
        Walk.aroundEachCall((what, before, step, answer, x) -> {
            boolean isLetter = step.is("send") || step.is("route");
            int due = isLetter && answer == 2 ? 1 : 0;
            int gone = 0;
            for (int address = 0; address < 16; address++) {
                if (before.has(address) && x.entry(address, 0) == UNKNOWN) {
                    due += before.held[address].length;
                    gone++;
                }
            }
            lost[0] += due;
            DUE.is(what + ": lost", x.count(4) - before.count[4], due);
            DUE.is(what + ": gone", x.count(7) - before.count[7], gone);
        });
        yes("lost ones were among them", lost[0] > 100);
    }

    static void itIsGoneAtTheTickThatIsToldIfOnlyTimePasses() {
        for (int seed = 0; seed < Walk.WALKS; seed++) {
            List<Walk.Step> steps = Walk.steps(seed);
            for (int calls = 10; calls <= Walk.CALLS; calls += 24) {
                StationBook x = Walk.book(steps, calls);
                Seen before = new Seen(x);
                for (int tick = before.clock() + 1; tick <= before.clock() + 60; tick++) {
                    x.pass(1);
                    goneAsTold("walk " + seed + " behind call " + calls, before, tick, x);
                }
            }
        }
    }

    private static void goneAsTold(String what, Seen before, int tick, StationBook x) {
        for (int address = 0; address < 16; address++) {
            if (before.has(address)) {
                int goneAt = before.entry[address][7];
                boolean isDue = goneAt != NONE && goneAt <= tick;
                yes(what + ": entry " + address + " at " + tick, isDue == (x.entry(address, 0) == UNKNOWN));
            }
        }
    }

    // ---- a LETTER to an ADDRESS

    static void aLetterToAnAddress() {
        int[] seen = new int[6];
        Walk.aroundEachCall((what, before, step, answer, x) -> {
            int to = letterTo(before, step, answer);
            if (to == NONE) {
                return;
            }
            seen[before.state(to) + 1]++;
            if (!before.has(to)) {
                letterToOneWithoutAnEntry(what, to, step.a()[1], answer, x);
            } else if (before.state(to) == ASKING) {
                letterToAnAskingOne(what, before, to, step.a()[1], answer, x);
            } else {
                letterGoesOut(what, before, to, step.a()[1], answer, x);
            }
        });
        for (int state = 0; state < seen.length; state++) {
            yes("letters to state " + (state - 1) + " were among them", seen[state] > 100);
        }
    }

    private static void letterToOneWithoutAnEntry(String what, int to, int letter, long answer, StationBook x) {
        int now = x.about(0);
        DUE.is(what + ": answer", answer, 1);
        DUE.entry(what, x, to, ASKING, 0, now + 6, 1, 1);
        DUE.is(what + ": held", x.held(to, 0), letter);
        DUE.out(what, x, 0, ASK, to, 0, 0, now);
    }

    private static void letterToAnAskingOne(String what, Seen before, int to, int letter, long answer, StationBook x) {
        int[] held = before.held[to];
        int lost = held.length == 3 ? 1 : 0;
        DUE.is(what + ": answer", answer, 1 + lost);
        DUE.entry(what, x, to, ASKING, 0, before.entry[to][2], before.entry[to][3], held.length + 1 - lost);
        for (int place = lost; place < held.length; place++) {
            DUE.is(what + ": held before", x.held(to, place - lost), held[place]);
        }
        DUE.is(what + ": held now", x.held(to, held.length - lost), letter);
        DUE.is(what + ": nothing goes out", x.count(6), before.count[6]);
    }

    private static void letterGoesOut(String what, Seen before, int to, int letter, long answer, StationBook x) {
        int[] was = before.entry[to];
        DUE.is(what + ": answer", answer, 0);
        DUE.is(what + ": one goes out", x.count(6), before.count[6] + 1);
        DUE.out(what, x, 0, LETTER, to, was[1], letter, before.clock());
        if (was[0] == STALE) {
            DUE.entry(what, x, to, RESTING, was[1], before.clock() + 5, 0, 0);
        } else {
            DUE.entry(what, x, to, was[0], was[1], was[2], was[3], 0);
        }
    }

    // ---- HEARD

    static void heardOfAnAddressWithAMark() {
        int[] seen = new int[6];
        Walk.aroundEachCall((what, before, step, answer, x) -> {
            boolean byTold = step.is("told") && answer >= 0;
            boolean byAsks = step.is("asks") && answer == 1 && step.a()[0] != NONE;
            if (byTold || byAsks) {
                int address = step.a()[0];
                seen[before.state(address) + 1]++;
                heard(what, before, address, step.a()[1], byAsks ? 1 : 0, x);
            }
        });
        for (int state = 0; state < seen.length; state++) {
            yes("state " + (state - 1) + " was among them", seen[state] > 100);
        }
    }

    /** Behind it so many more went out, the latest first. */
    private static void heard(String what, Seen before, int address, int mark, int more, StationBook x) {
        int[] was = before.entry[address];
        int[] held = was == null ? new int[0] : before.held[address];
        DUE.is(what + ": so many go out", x.count(6), before.count[6] + held.length + more);
        if (was == null && !before.hasRoom()) {
            DUE.is(what + ": nothing without room", x.entry(address, 0), UNKNOWN);
        } else if (was == null || was[0] == ASKING || was[1] != mark) {
            DUE.entry(what, x, address, STALE, mark, NONE, 0, 0);
        } else {
            DUE.entry(what, x, address, was[0], was[1], was[2], was[3], 0);
        }
        for (int i = 0; i < held.length; i++) {
            DUE.out(what, x, more + held.length - 1 - i, LETTER, address, mark, held[i], before.clock());
        }
    }

    // ---- a TICK passes

    static void aTickPasses() {
        int[] seen = new int[6];
        for (int seed = 0; seed < Walk.WALKS; seed++) {
            StationBook x = new StationBook();
            boolean routerWasMade = false;
            for (Walk.Step step : Walk.steps(seed)) {
                int ticks = step.is("pass") && within(step.a()[0], 1, 60) ? step.a()[0] : 0;
                for (int i = 0; i < ticks; i++) {
                    Seen before = new Seen(x);
                    DUE.is("walk " + seed + ": the clock is 1 farther", x.pass(1), before.clock() + 1);
                    oneTick("walk " + seed + ", tick " + x.about(0), before, routerWasMade, seen, x);
                }
                if (ticks == 0) {
                    long answer = step.on(x);
                    routerWasMade |= step.is("told") && answer >= 0 && step.a()[2] > 0;
                }
            }
        }
        for (int sort = ASK; sort <= SOLICIT; sort++) {
            yes("sort " + sort + " was among them", sort == ANSWER || seen[sort] > 20);
        }
    }

    private static void oneTick(String what, Seen before, boolean routerWasMade, int[] seen, StationBook x) {
        int now = before.clock() + 1;
        List<int[]> due = new ArrayList<>();
        for (int address = 0; address < 16; address++) {
            if (before.has(address)) {
                entryInATick(what, before.entry[address], address, now, due, x);
            }
        }
        List<int[]> routers = new Seen(x).routers;
        DUE.is(what + ": routers", routers.size(), before.routers.stream().filter(r -> r[2] != now).count());
        yes(what + ": no router of this tick", routers.stream().noneMatch(r -> r[2] == now));
        trialInATick(what, before, now, due, x);
        if ((now == 4 || now == 8) && !routerWasMade) {
            due.add(new int[] {SOLICIT, NONE, 0, 0, now});
        }
        DUE.is(what + ": so many go out", x.count(6), before.count[6] + due.size());
        for (int i = 0; i < due.size(); i++) {
            seen[due.get(i)[0]]++;
            DUE.out(what, x, due.size() - 1 - i, due.get(i));
        }
    }

    private static void entryInATick(String what, int[] was, int address, int now, List<int[]> due, StationBook x) {
        String entry = what + ", entry " + address;
        if (was[0] == STALE || was[2] != now) {
            DUE.entry(entry, x, address, was[0], was[1], was[2], was[3], was[4]);
        } else if (was[0] == FRESH) {
            DUE.entry(entry, x, address, STALE, was[1], NONE, 0, 0);
        } else if (was[3] == 3) {
            DUE.is(entry + ": gone", x.entry(address, 0), UNKNOWN);
        } else if (was[0] == ASKING) {
            DUE.entry(entry, x, address, ASKING, 0, now + 6, was[3] + 1, was[4]);
            due.add(new int[] {ASK, address, 0, 0, now});
        } else {
            DUE.entry(entry, x, address, TRYING, was[1], now + 4, was[3] + 1, 0);
            due.add(new int[] {PROBE, address, was[1], 0, now});
        }
    }

    private static void trialInATick(String what, Seen before, int now, List<int[]> due, StationBook x) {
        int trial = before.about[2];
        boolean isOwnNow = trial != NONE && before.about[3] == now;
        DUE.is(what + ": own", x.about(1), isOwnNow ? trial : before.about[1]);
        DUE.is(what + ": trial", x.about(2), isOwnNow ? NONE : trial);
        if (trial != NONE && before.about[3] == now + 5) {
            due.add(new int[] {TRIAL, trial, 0, 0, now});
        }
    }

    // ---- Refusals

    static void aRefusedCallChangesNothing() {
        for (int seed = 0; seed < Walk.WALKS; seed++) {
            List<Walk.Step> steps = Walk.steps(seed);
            StationBook x = new StationBook();
            int looked = 0;
            for (int i = 0; i < steps.size(); i++) {
                Walk.Step step = steps.get(i);
                long before = x.digest();
                long answer = step.on(x);
                if (answer < -100) {
                    DUE.is("walk " + seed + ": digest() behind " + step, x.digest(), before);
                }
                if (answer < -100 && looked < 8 && i % 9 == seed % 9) {
                    int calls = i;
                    looked++;
                    DUE.nothing("walk " + seed + ": " + step, () -> Walk.book(steps, calls), step::on, answer);
                }
            }
        }
    }

    static void refusalsAreTheFourConstantsAndNoOtherNumberIsLess() {
        int[] seen = new int[5];
        Walk.aroundEachCall((what, before, step, answer, x) -> {
            boolean refused = answer == OUTSIDE || answer == STATE || answer == FULL;
            boolean none = answer == NONE && (step.is("hint") || step.is("answered"));
            yes(what + ": answer " + answer, refused || none || answer >= 0);
            if (refused) {
                seen[(int) (-100 - answer)]++;
            }
        });
        for (int refusal : new int[] {OUTSIDE, STATE, FULL}) {
            yes("refusal " + refusal + " was among them", seen[-100 - refusal] > 100);
        }
    }
}

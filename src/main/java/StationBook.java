/** The book of a station about who is near it; ../shared/DOC.md says what each call must do. */
public final class StationBook {
    public static final int NONE = -1, UNKNOWN = -101, OUTSIDE = -102, STATE = -103, FULL = -104;

    private static final int ADDRESSES = 16;
    private static final int LAST_MARK = 99;
    private static final int LAST_LETTER = 999;
    private static final int FIRST_GOAL = 16;
    private static final int LAST_GOAL = 47;
    private static final int LONGEST_PASS = 60;
    private static final int LONGEST_LIFE = 200;
    private static final int TRIAL_AGAIN = 5;
    private static final int TRIAL_LENGTH = 10;
    private static final int SECOND_SOLICIT = 4;
    private static final int THIRD_SOLICIT = 8;

    private static final int ENTRY_NUMBERS = 8;
    private static final int ROUTER_NUMBERS = 4;
    private static final int OUT_NUMBERS = 5;
    private static final int ABOUT_NUMBERS = 6;
    private static final int COUNT_NUMBERS = 9;
    private static final int DIGEST_GOALS = 4;
    private static final long DIGEST_START = 1523L;

    private static final int ABSENT = -1;
    private static final int ASKING = 0;
    private static final int FRESH = 1;
    private static final int STALE = 2;
    private static final int RESTING = 3;
    private static final int TRYING = 4;

    private static final int SORT_LETTER = 0;
    private static final int SORT_ASK = 1;
    private static final int SORT_PROBE = 2;
    private static final int SORT_ANSWER = 3;
    private static final int SORT_TRIAL = 4;
    private static final int SORT_SOLICIT = 5;

    private static final int WENT_OUT = 0;
    private static final int IS_HELD = 1;
    private static final int IS_HELD_ONE_LOST = 2;

    private final Outbox outbox;
    private final KeptHops kept;
    private final Entries entries;
    private final Routers routers;
    private int clock;
    private int own;
    private int trial;
    private int trialBegan;
    private int doubled;
    private int lastInTurn;
    private boolean routerWasTold;

    public StationBook() {
        Outbox newOutbox = new Outbox();
        KeptHops newKept = new KeptHops();
        outbox = newOutbox;
        kept = newKept;
        entries = new Entries(newOutbox, newKept);
        routers = new Routers();
        clock = 0;
        own = NONE;
        trial = NONE;
        trialBegan = 0;
        doubled = 0;
        lastInTurn = NONE;
        routerWasTold = false;
        newOutbox.add(SORT_SOLICIT, NONE, 0, 0, 0);
    }

    // ---- time

    public int pass(int n) {
        if (n < 1 || n > LONGEST_PASS) {
            return OUTSIDE;
        }
        for (int i = 0; i < n; i++) {
            tickPasses();
        }
        return clock;
    }

    private void tickPasses() {
        clock++;
        entries.endThoseOf(clock);
        routers.endThoseOf(clock);
        trialGoesOn();
        solicitIfDue();
    }

    private void trialGoesOn() {
        if (trial == NONE) {
            return;
        }
        int age = clock - trialBegan;
        if (age == TRIAL_AGAIN) {
            outbox.add(SORT_TRIAL, trial, 0, 0, clock);
        } else if (age == TRIAL_LENGTH) {
            own = trial;
            trial = NONE;
        }
    }

    private void solicitIfDue() {
        boolean due = clock == SECOND_SOLICIT || clock == THIRD_SOLICIT;
        if (due && !routerWasTold) {
            outbox.add(SORT_SOLICIT, NONE, 0, 0, clock);
        }
    }

    // ---- letters

    public int send(int address, int letter) {
        if (!isAddress(address) || !isLetter(letter)) {
            return OUTSIDE;
        }
        if (isOwnOrTrial(address)) {
            return STATE;
        }
        return entries.takeLetter(address, letter, clock);
    }

    public int route(int goal, int letter) {
        if (!isGoal(goal) || !isLetter(letter)) {
            return OUTSIDE;
        }
        int sure = sureHopOf(goal);
        int next = sure == NONE ? nextInTurn() : sure;
        if (next == NONE) {
            return STATE;
        }
        int answer = entries.takeLetter(next, letter, clock);
        if (answer != FULL && sure == NONE) {
            lastInTurn = next;
        }
        return answer;
    }

    public int hint(int address) {
        if (!isAddress(address)) {
            return OUTSIDE;
        }
        return entries.confirm(address, clock);
    }

    // ---- what is heard

    public int answered(int address, int mark, boolean asked, boolean over, boolean router) {
        if (!isAddress(address) || !isMark(mark)) {
            return OUTSIDE;
        }
        if (address == trial) {
            trialIsDoubled();
        }
        if (!entries.has(address)) {
            return NONE;
        }
        entries.takeAnswer(address, mark, asked, over, clock);
        if (!router) {
            routers.remove(address);
        }
        return entries.stateOf(address);
    }

    public int asks(int address, int mark, int target) {
        boolean nameless = address == NONE;
        if (!(nameless || isAddress(address)) || !isMark(mark) || !isAddress(target)) {
            return OUTSIDE;
        }
        if (!nameless && isOwnOrTrial(address)) {
            return STATE;
        }
        if (target == own) {
            answerTo(address, mark);
            return 1;
        }
        if (target == trial && nameless) {
            trialIsDoubled();
            return 2;
        }
        return 0;
    }

    private void answerTo(int address, int mark) {
        if (address == NONE) {
            outbox.add(SORT_ANSWER, NONE, 0, 0, clock);
            return;
        }
        entries.hear(address, mark, clock);
        outbox.add(SORT_ANSWER, address, mark, 0, clock);
    }

    private void trialIsDoubled() {
        doubled |= 1 << trial;
        trial = NONE;
    }

    public int told(int address, int mark, int life, int rank) {
        if (!isAddress(address) || !isMark(mark)) {
            return OUTSIDE;
        }
        if (life < 0 || life > LONGEST_LIFE || rank < -1 || rank > 1) {
            return OUTSIDE;
        }
        if (isOwnOrTrial(address)) {
            return STATE;
        }
        if (life > 0 && !routers.hasRoomFor(address)) {
            return FULL;
        }
        entries.hear(address, mark, clock);
        if (life > 0) {
            routers.put(address, rank, clock + life);
            routerWasTold = true;
        } else {
            routers.remove(address);
        }
        return routers.howMany();
    }

    public int better(int from, int goal, int hop) {
        if (!isAddress(from) || !isGoal(goal) || !isAddress(hop)) {
            return OUTSIDE;
        }
        if (isOwnOrTrial(hop)) {
            return STATE;
        }
        if (hop(goal) != from) {
            return 0;
        }
        kept.keep(goal, hop);
        return 1;
    }

    // ---- an address of its own

    public int claim(int address) {
        if (!isAddress(address)) {
            return OUTSIDE;
        }
        if (own != NONE || trial != NONE || isTaken(address)) {
            return STATE;
        }
        trial = address;
        trialBegan = clock;
        outbox.add(SORT_TRIAL, address, 0, 0, clock);
        return clock + TRIAL_LENGTH;
    }

    private boolean isTaken(int address) {
        boolean isDoubled = (doubled & (1 << address)) != 0;
        return isDoubled || entries.has(address) || routers.has(address) || kept.leadTo(address);
    }

    public int give() {
        int given = own != NONE ? own : trial;
        if (given == NONE) {
            return STATE;
        }
        own = NONE;
        trial = NONE;
        return given;
    }

    // ---- what is told

    public int entry(int address, int what) {
        if (!entries.has(address)) {
            return UNKNOWN;
        }
        if (what == 5) {
            return routers.has(address) ? 1 : 0;
        }
        return entries.tell(address, what);
    }

    public int held(int address, int place) {
        return entries.letterAt(address, place);
    }

    public int router(int place, int what) {
        int slot = routers.slotInOrder(place, entries);
        if (slot == NONE) {
            return UNKNOWN;
        }
        if (what == 3) {
            return routers.isGood(slot, entries) ? 1 : 0;
        }
        return routers.tell(slot, what);
    }

    public int hop(int goal) {
        if (!isGoal(goal)) {
            return OUTSIDE;
        }
        int sure = sureHopOf(goal);
        return sure == NONE ? nextInTurn() : sure;
    }

    /** The HOP that is not taken in TURN: the kept one, or the first GOOD ROUTER. */
    private int sureHopOf(int goal) {
        int keptHop = kept.hopOf(goal);
        return keptHop == NONE ? routers.firstGood(entries) : keptHop;
    }

    /** Asked only where no ROUTER is GOOD, so that all of them are DOUBTFUL. */
    private int nextInTurn() {
        int above = routers.leastAbove(lastInTurn);
        return above == NONE ? routers.leastAbove(NONE) : above;
    }

    public int out(int place, int what) {
        return outbox.tell(place, what);
    }

    public int about(int what) {
        switch (what) {
            case 0: return clock;
            case 1: return own;
            case 2: return trial;
            case 3: return trial == NONE ? NONE : trialBegan + TRIAL_LENGTH;
            case 4: return doubled;
            case 5: return lastInTurn;
            default: return OUTSIDE;
        }
    }

    // ---- what is told of all

    public int count(int what) {
        switch (what) {
            case 0: return entries.howMany();
            case 1: return routers.howMany();
            case 2: return kept.howMany();
            case 3: return entries.allWaiting();
            case 4: return entries.lostEver();
            case 5: return outbox.lettersEver();
            case 6: return outbox.allEver();
            case 7: return entries.goneEver();
            case 8: return entries.allFresh();
            default: return OUTSIDE;
        }
    }

    public long digest() {
        long h = DIGEST_START;
        for (int what = 0; what < ABOUT_NUMBERS; what++) {
            h = mix(h, about(what));
        }
        h = mixEntries(h);
        h = mixRouters(h);
        for (int i = 0; i < DIGEST_GOALS; i++) {
            h = mix(h, hop(FIRST_GOAL + i));
        }
        h = mixOutbox(h);
        for (int what = 0; what < COUNT_NUMBERS; what++) {
            h = mix(h, count(what));
        }
        return h;
    }

    private static long mix(long h, int number) {
        return 31L * h + number;
    }

    private long mixEntries(long start) {
        long h = start;
        for (int address = 0; address < ADDRESSES; address++) {
            h = entries.has(address) ? mixEntry(h, address) : mix(h, NONE);
        }
        return h;
    }

    private long mixEntry(long start, int address) {
        long h = start;
        for (int what = 0; what < ENTRY_NUMBERS; what++) {
            h = mix(h, entry(address, what));
        }
        int waiting = entries.waitingAt(address);
        for (int place = 0; place < waiting; place++) {
            h = mix(h, held(address, place));
        }
        return h;
    }

    private long mixRouters(long start) {
        long h = start;
        int many = routers.howMany();
        for (int place = 0; place < many; place++) {
            for (int what = 0; what < ROUTER_NUMBERS; what++) {
                h = mix(h, router(place, what));
            }
        }
        return h;
    }

    private long mixOutbox(long start) {
        long h = start;
        int many = outbox.howMany();
        for (int place = 0; place < many; place++) {
            for (int what = 0; what < OUT_NUMBERS; what++) {
                h = mix(h, out(place, what));
            }
        }
        return h;
    }

    // ---- what numbers may be

    private static boolean isAddress(int number) {
        return number >= 0 && number < ADDRESSES;
    }

    private static boolean isMark(int number) {
        return number >= 1 && number <= LAST_MARK;
    }

    private static boolean isLetter(int number) {
        return number >= 1 && number <= LAST_LETTER;
    }

    private static boolean isGoal(int number) {
        return number >= FIRST_GOAL && number <= LAST_GOAL;
    }

    private boolean isOwnOrTrial(int address) {
        return address == own || address == trial;
    }

    /** All that goes out; the latest ten lie in a ring, five numbers each. */
    private static final class Outbox {
        private static final int KEPT = 10;

        private final int[] ring = new int[KEPT * OUT_NUMBERS];
        private int latest;
        private int size;
        private int all;
        private int letters;

        private Outbox() {
            latest = KEPT - 1;
            size = 0;
            all = 0;
            letters = 0;
        }

        private void add(int sort, int address, int mark, int letter, int tick) {
            // The slot wraps by itself, not by a remainder of 'all', so it can never leave the ring.
            latest = latest >= KEPT - 1 ? 0 : latest + 1;
            int start = latest * OUT_NUMBERS;
            ring[start] = sort;
            ring[start + 1] = address;
            ring[start + 2] = mark;
            ring[start + 3] = letter;
            ring[start + 4] = tick;
            if (size < KEPT) {
                size++;
            }
            all++;
            if (sort == SORT_LETTER) {
                letters++;
            }
        }

        private int tell(int place, int what) {
            if (place < 0 || place >= size) {
                return UNKNOWN;
            }
            if (what < 0 || what >= OUT_NUMBERS) {
                return OUTSIDE;
            }
            int slot = latest - place;
            if (slot < 0) {
                slot += KEPT;
            }
            return ring[slot * OUT_NUMBERS + what];
        }

        private int howMany() {
            return size;
        }

        private int allEver() {
            return all;
        }

        private int lettersEver() {
            return letters;
        }
    }

    /** HOPS that are kept, the one that was kept first of all at slot 0. */
    private static final class KeptHops {
        private static final int LIMIT = 4;

        private final int[] goals = new int[LIMIT];
        private final int[] hops = new int[LIMIT];
        private int size;

        private KeptHops() {
            size = 0;
        }

        private int howMany() {
            return size;
        }

        private int slotOf(int goal) {
            for (int slot = 0; slot < size; slot++) {
                if (goals[slot] == goal) {
                    return slot;
                }
            }
            return NONE;
        }

        private int hopOf(int goal) {
            int slot = slotOf(goal);
            return slot == NONE ? NONE : hops[slot];
        }

        private boolean leadTo(int address) {
            for (int slot = 0; slot < size; slot++) {
                if (hops[slot] == address) {
                    return true;
                }
            }
            return false;
        }

        private void keep(int goal, int address) {
            int slot = slotOf(goal);
            if (slot != NONE) {
                hops[slot] = address;
                return;
            }
            if (size >= LIMIT) {
                removeSlot(0);
            }
            goals[size] = goal;
            hops[size] = address;
            size++;
        }

        private void forget(int address) {
            for (int slot = size - 1; slot >= 0; slot--) {
                if (hops[slot] == address) {
                    removeSlot(slot);
                }
            }
        }

        private void removeSlot(int slot) {
            for (int i = slot; i < size - 1; i++) {
                goals[i] = goals[i + 1];
                hops[i] = hops[i + 1];
            }
            size--;
        }
    }

    /** ROUTERS, in no order of their own: their order depends on the ENTRIES of the moment. */
    private static final class Routers {
        private static final int LIMIT = 4;
        private static final int RANKS = 3;

        private final int[] addresses = new int[LIMIT];
        private final int[] ranks = new int[LIMIT];
        private final int[] ends = new int[LIMIT];
        private int size;

        private Routers() {
            size = 0;
        }

        private int howMany() {
            return size;
        }

        private int slotOf(int address) {
            for (int slot = 0; slot < size; slot++) {
                if (addresses[slot] == address) {
                    return slot;
                }
            }
            return NONE;
        }

        private boolean has(int address) {
            return slotOf(address) != NONE;
        }

        private boolean hasRoomFor(int address) {
            return size < LIMIT || has(address);
        }

        private void put(int address, int rank, int end) {
            int slot = slotOf(address);
            if (slot == NONE) {
                if (size >= LIMIT) {
                    return;
                }
                slot = size;
                size++;
            }
            addresses[slot] = address;
            ranks[slot] = rank;
            ends[slot] = end;
        }

        private void remove(int address) {
            int slot = slotOf(address);
            if (slot != NONE) {
                removeSlot(slot);
            }
        }

        private void removeSlot(int slot) {
            size--;
            addresses[slot] = addresses[size];
            ranks[slot] = ranks[size];
            ends[slot] = ends[size];
        }

        private void endThoseOf(int now) {
            for (int slot = size - 1; slot >= 0; slot--) {
                if (ends[slot] == now) {
                    removeSlot(slot);
                }
            }
        }

        private boolean isGood(int slot, Entries entries) {
            return entries.hasMark(addresses[slot]);
        }

        /** Greater for the one that comes first in order, and never alike for two: GOOD, then RANK, then ADDRESS. */
        private int weight(int slot, Entries entries) {
            int good = entries.hasMark(addresses[slot]) ? 1 : 0;
            return (good * RANKS + ranks[slot]) * ADDRESSES - addresses[slot];
        }

        private int slotInOrder(int place, Entries entries) {
            for (int slot = 0; slot < size; slot++) {
                int weight = weight(slot, entries);
                int ahead = 0;
                for (int other = 0; other < size; other++) {
                    if (weight(other, entries) > weight) {
                        ahead++;
                    }
                }
                if (ahead == place) {
                    return slot;
                }
            }
            return NONE;
        }

        private int firstGood(Entries entries) {
            int first = slotInOrder(0, entries);
            return first != NONE && isGood(first, entries) ? addresses[first] : NONE;
        }

        private int leastAbove(int bound) {
            int least = NONE;
            for (int slot = 0; slot < size; slot++) {
                int address = addresses[slot];
                if (address > bound && (least == NONE || address < least)) {
                    least = address;
                }
            }
            return least;
        }

        private int tell(int slot, int what) {
            switch (what) {
                case 0: return addresses[slot];
                case 1: return ranks[slot];
                case 2: return ends[slot];
                default: return OUTSIDE;
            }
        }
    }

    /** ENTRIES, each at the number of its ADDRESS. */
    private static final class Entries {
        private static final int LIMIT = 5;
        private static final int HELD_LIMIT = 3;
        private static final int TRIES_LIMIT = 3;
        private static final int ASKING_LENGTH = 6;
        private static final int FRESH_LENGTH = 30;
        private static final int RESTING_LENGTH = 5;
        private static final int TRYING_LENGTH = 4;

        private final Outbox outbox;
        private final KeptHops kept;
        private final int[] states = new int[ADDRESSES];
        private final int[] marks = new int[ADDRESSES];
        private final int[] ends = new int[ADDRESSES];
        private final int[] tries = new int[ADDRESSES];
        private final int[] used = new int[ADDRESSES];
        private final int[] waiting = new int[ADDRESSES];
        private final int[] letters = new int[ADDRESSES * HELD_LIMIT];
        private int size;
        private int lost;
        private int gone;

        private Entries(Outbox outbox, KeptHops kept) {
            this.outbox = outbox;
            this.kept = kept;
            size = 0;
            lost = 0;
            gone = 0;
            for (int address = 0; address < ADDRESSES; address++) {
                states[address] = ABSENT;
            }
        }

        private boolean has(int address) {
            return address >= 0 && address < ADDRESSES && states[address] != ABSENT;
        }

        private boolean hasMark(int address) {
            return address >= 0 && address < ADDRESSES && states[address] != ABSENT && states[address] != ASKING;
        }

        private int stateOf(int address) {
            return has(address) ? states[address] : NONE;
        }

        private int waitingAt(int address) {
            return has(address) ? waiting[address] : 0;
        }

        private int howMany() {
            return size;
        }

        private int lostEver() {
            return lost;
        }

        private int goneEver() {
            return gone;
        }

        private int allWaiting() {
            int sum = 0;
            for (int address = 0; address < ADDRESSES; address++) {
                sum += waitingAt(address);
            }
            return sum;
        }

        private int allFresh() {
            int sum = 0;
            for (int address = 0; address < ADDRESSES; address++) {
                if (states[address] == FRESH) {
                    sum++;
                }
            }
            return sum;
        }

        // -- coming and going

        private boolean hasRoom() {
            return size < LIMIT || longestUnused() != NONE;
        }

        /** The STALE one that goes where room is needed. */
        private int longestUnused() {
            int found = NONE;
            for (int address = 0; address < ADDRESSES; address++) {
                if (states[address] == STALE && (found == NONE || used[address] < used[found])) {
                    found = address;
                }
            }
            return found;
        }

        private void come(int address, int state, int mark, int now) {
            if (size >= LIMIT) {
                remove(longestUnused());
            }
            size++;
            marks[address] = mark;
            used[address] = now;
            become(address, state, NONE);
        }

        private void remove(int address) {
            if (!has(address)) {
                return;
            }
            lost += waiting[address];
            waiting[address] = 0;
            states[address] = ABSENT;
            size--;
            gone++;
            kept.forget(address);
        }

        private void become(int address, int state, int end) {
            states[address] = state;
            ends[address] = end;
            tries[address] = 0;
        }

        private void becomeFresh(int address, int now) {
            become(address, FRESH, now + FRESH_LENGTH);
        }

        private void becomeStale(int address) {
            become(address, STALE, NONE);
        }

        // -- letters

        private int takeLetter(int address, int letter, int now) {
            if (!has(address)) {
                if (!hasRoom()) {
                    return FULL;
                }
                come(address, ASKING, 0, now);
                ask(address, now);
            }
            used[address] = now;
            if (states[address] == ASKING) {
                return hold(address, letter);
            }
            letterGoesOut(address, letter, now);
            if (states[address] == STALE) {
                become(address, RESTING, now + RESTING_LENGTH);
            }
            return WENT_OUT;
        }

        private int hold(int address, int letter) {
            int first = address * HELD_LIMIT;
            if (waiting[address] < HELD_LIMIT) {
                letters[first + waiting[address]] = letter;
                waiting[address]++;
                return IS_HELD;
            }
            for (int i = first; i < first + HELD_LIMIT - 1; i++) {
                letters[i] = letters[i + 1];
            }
            letters[first + HELD_LIMIT - 1] = letter;
            lost++;
            return IS_HELD_ONE_LOST;
        }

        private void letterGoesOut(int address, int letter, int now) {
            outbox.add(SORT_LETTER, address, marks[address], letter, now);
        }

        private void heldGoOut(int address, int now) {
            int first = address * HELD_LIMIT;
            for (int i = 0; i < waiting[address]; i++) {
                letterGoesOut(address, letters[first + i], now);
            }
            waiting[address] = 0;
        }

        private int confirm(int address, int now) {
            if (hasMark(address)) {
                becomeFresh(address, now);
            }
            return stateOf(address);
        }

        // -- what is heard

        private void hear(int address, int mark, int now) {
            if (!has(address)) {
                if (hasRoom()) {
                    come(address, STALE, mark, now);
                }
            } else if (states[address] == ASKING) {
                endAsking(address, mark, false, now);
            } else if (marks[address] != mark) {
                correctMark(address, mark);
            }
        }

        private void takeAnswer(int address, int mark, boolean asked, boolean over, int now) {
            boolean unlike = marks[address] != mark;
            if (states[address] == ASKING) {
                endAsking(address, mark, asked, now);
            } else if (unlike && !over) {
                doubt(address);
            } else if (asked) {
                marks[address] = mark;
                becomeFresh(address, now);
            } else if (unlike) {
                correctMark(address, mark);
            }
        }

        private void endAsking(int address, int mark, boolean asked, int now) {
            marks[address] = mark;
            if (asked) {
                becomeFresh(address, now);
            } else {
                becomeStale(address);
            }
            heldGoOut(address, now);
        }

        private void correctMark(int address, int mark) {
            marks[address] = mark;
            becomeStale(address);
        }

        private void doubt(int address) {
            if (states[address] == FRESH) {
                becomeStale(address);
            }
        }

        // -- time

        private void endThoseOf(int now) {
            for (int address = 0; address < ADDRESSES; address++) {
                if (has(address) && states[address] != STALE && ends[address] == now) {
                    endState(address, now);
                }
            }
        }

        private void endState(int address, int now) {
            if (states[address] == FRESH) {
                becomeStale(address);
            } else if (states[address] == RESTING) {
                become(address, TRYING, NONE);
                probe(address, now);
            } else if (tries[address] >= TRIES_LIMIT) {
                remove(address);
            } else if (states[address] == TRYING) {
                probe(address, now);
            } else {
                ask(address, now);
            }
        }

        private void ask(int address, int now) {
            outbox.add(SORT_ASK, address, 0, 0, now);
            tries[address]++;
            ends[address] = now + ASKING_LENGTH;
        }

        private void probe(int address, int now) {
            outbox.add(SORT_PROBE, address, marks[address], 0, now);
            tries[address]++;
            ends[address] = now + TRYING_LENGTH;
        }

        // -- what is told

        /** Number 5, whether it is a ROUTER, is not known here. */
        private int tell(int address, int what) {
            switch (what) {
                case 0: return states[address];
                case 1: return marks[address];
                case 2: return ends[address];
                case 3: return tries[address];
                case 4: return waiting[address];
                case 6: return used[address];
                case 7: return goneAt(address);
                default: return OUTSIDE;
            }
        }

        private int goneAt(int address) {
            int left = TRIES_LIMIT - tries[address];
            switch (states[address]) {
                case ASKING: return ends[address] + left * ASKING_LENGTH;
                case RESTING:
                case TRYING: return ends[address] + left * TRYING_LENGTH;
                default: return NONE;
            }
        }

        private int letterAt(int address, int place) {
            if (place < 0 || place >= waitingAt(address)) {
                return UNKNOWN;
            }
            return letters[address * HELD_LIMIT + place];
        }
    }
}

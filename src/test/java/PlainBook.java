import java.util.ArrayList;
import java.util.Comparator;
import java.util.LinkedHashMap;
import java.util.List;
import java.util.Map;
import java.util.TreeMap;
import java.util.TreeSet;

/** The document once more, as plainly as lists and maps allow, for ModelTest to compare with. */
final class PlainBook {
    private static final int NONE = -1, UNKNOWN = -101, OUTSIDE = -102, STATE = -103, FULL = -104;
    private static final int ASKING = 0, FRESH = 1, STALE = 2, RESTING = 3, TRYING = 4;

    private static final class Entry {
        int state;
        int mark = 0;
        int end = NONE;
        int tries = 0;
        int used;
        final List<Integer> held = new ArrayList<>();
    }

    private record Sent(int sort, int address, int mark, int letter, int tick) {
        int tell(int what) {
            return new int[] {sort, address, mark, letter, tick}[what];
        }
    }

    private record Router(int address, int rank, int end) {
    }

    private final TreeMap<Integer, Entry> book = new TreeMap<>();
    private final TreeMap<Integer, Router> routers = new TreeMap<>();
    private final Map<Integer, Integer> kept = new LinkedHashMap<>();
    private final List<Sent> sent = new ArrayList<>();
    private final TreeSet<Integer> doubled = new TreeSet<>();
    private Integer own = null;
    private Integer trial = null;
    private int trialFrom = 0;
    private Integer turn = null;
    private boolean madeRouter = false;
    private int clock = 0;
    private int lost = 0;
    private int gone = 0;

    PlainBook() {
        goesOut(5, NONE, 0, 0);
    }

    private void goesOut(int sort, int address, int mark, int letter) {
        sent.add(new Sent(sort, address, mark, letter, clock));
    }

    private static boolean in(int low, int number, int high) {
        return low <= number && number <= high;
    }

    private boolean mine(int address) {
        return own != null && own == address || trial != null && trial == address;
    }

    private Integer victim() {
        return book.entrySet().stream().filter(e -> e.getValue().state == STALE)
            .min(Comparator.comparingInt((Map.Entry<Integer, Entry> e) -> e.getValue().used)
                .thenComparingInt(Map.Entry::getKey))
            .map(Map.Entry::getKey).orElse(null);
    }

    private boolean room() {
        return book.size() < 5 || victim() != null;
    }

    private void isGone(int address) {
        lost += book.remove(address).held.size();
        gone++;
        kept.values().removeIf(hop -> hop == address);
    }

    private Entry comes(int address, int state) {
        if (book.size() == 5) {
            isGone(victim());
        }
        Entry e = new Entry();
        e.state = state;
        e.used = clock;
        book.put(address, e);
        return e;
    }

    private static void set(Entry e, int state, int end, int tries) {
        e.state = state;
        e.end = end;
        e.tries = tries;
    }

    private void heldOut(int address) {
        Entry e = book.get(address);
        for (int letter : e.held) {
            goesOut(0, address, e.mark, letter);
        }
        e.held.clear();
    }

    private int letterTo(int address, int letter) {
        Entry e = book.get(address);
        if (e == null) {
            if (!room()) {
                return FULL;
            }
            e = comes(address, ASKING);
            goesOut(1, address, 0, 0);
            set(e, ASKING, clock + 6, 1);
            e.held.add(letter);
            return 1;
        }
        e.used = clock;
        if (e.state == ASKING) {
            e.held.add(letter);
            if (e.held.size() == 4) {
                e.held.remove(0);
                lost++;
                return 2;
            }
            return 1;
        }
        goesOut(0, address, e.mark, letter);
        if (e.state == STALE) {
            set(e, RESTING, clock + 5, 0);
        }
        return 0;
    }

    private void heard(int address, int mark) {
        Entry e = book.get(address);
        if (e == null) {
            if (room()) {
                comes(address, STALE).mark = mark;
            }
            return;
        }
        boolean wasAsking = e.state == ASKING;
        if (wasAsking || e.mark != mark) {
            e.mark = mark;
            set(e, STALE, NONE, 0);
        }
        if (wasAsking) {
            heldOut(address);
        }
    }

    private void tick() {
        clock++;
        for (int address : new ArrayList<>(book.keySet())) {
            Entry e = book.get(address);
            if (e.end != clock) {
                continue;
            }
            switch (e.state) {
                case FRESH -> set(e, STALE, NONE, 0);
                case RESTING -> {
                    goesOut(2, address, e.mark, 0);
                    set(e, TRYING, clock + 4, 1);
                }
                case TRYING -> {
                    if (e.tries < 3) {
                        goesOut(2, address, e.mark, 0);
                        set(e, TRYING, clock + 4, e.tries + 1);
                    } else {
                        isGone(address);
                    }
                }
                default -> {
                    if (e.tries < 3) {
                        goesOut(1, address, 0, 0);
                        set(e, ASKING, clock + 6, e.tries + 1);
                    } else {
                        isGone(address);
                    }
                }
            }
        }
        routers.values().removeIf(r -> r.end() == clock);
        if (trial != null && clock == trialFrom + 5) {
            goesOut(4, trial, 0, 0);
        }
        if (trial != null && clock == trialFrom + 10) {
            own = trial;
            trial = null;
        }
        if ((clock == 4 || clock == 8) && !madeRouter) {
            goesOut(5, NONE, 0, 0);
        }
    }

    int pass(int n) {
        if (!in(1, n, 60)) {
            return OUTSIDE;
        }
        for (int i = 0; i < n; i++) {
            tick();
        }
        return clock;
    }

    int send(int address, int letter) {
        if (!in(0, address, 15) || !in(1, letter, 999)) {
            return OUTSIDE;
        }
        return mine(address) ? STATE : letterTo(address, letter);
    }

    private boolean good(int address) {
        return book.containsKey(address) && book.get(address).state != ASKING;
    }

    private List<Router> ordered() {
        List<Router> list = new ArrayList<>(routers.values());
        list.sort(Comparator.comparing((Router r) -> !good(r.address()))
            .thenComparing(r -> -r.rank()).thenComparing(Router::address));
        return list;
    }

    private boolean byTurn(int goal) {
        return !kept.containsKey(goal) && routers.keySet().stream().noneMatch(this::good);
    }

    int route(int goal, int letter) {
        if (!in(16, goal, 47) || !in(1, letter, 999)) {
            return OUTSIDE;
        }
        int to = hop(goal);
        if (to == NONE) {
            return STATE;
        }
        boolean turned = byTurn(goal);
        int answer = letterTo(to, letter);
        if (turned && answer >= 0) {
            turn = to;
        }
        return answer;
    }

    int hint(int address) {
        if (!in(0, address, 15)) {
            return OUTSIDE;
        }
        Entry e = book.get(address);
        if (e == null) {
            return NONE;
        }
        if (e.state != ASKING) {
            set(e, FRESH, clock + 30, 0);
        }
        return e.state;
    }

    int answered(int address, int mark, boolean asked, boolean over, boolean router) {
        if (!in(0, address, 15) || !in(1, mark, 99)) {
            return OUTSIDE;
        }
        if (trial != null && trial == address) {
            doubled.add(trial);
            trial = null;
        }
        Entry e = book.get(address);
        if (e == null) {
            return NONE;
        }
        boolean unlike = e.mark != mark;
        if (e.state == ASKING) {
            e.mark = mark;
            set(e, asked ? FRESH : STALE, asked ? clock + 30 : NONE, 0);
            heldOut(address);
        } else if (unlike && !over) {
            if (e.state == FRESH) {
                set(e, STALE, NONE, 0);
            }
        } else if (asked) {
            e.mark = mark;
            set(e, FRESH, clock + 30, 0);
        } else if (unlike) {
            e.mark = mark;
            set(e, STALE, NONE, 0);
        }
        if (!router) {
            routers.remove(address);
        }
        return e.state;
    }

    int asks(int address, int mark, int target) {
        if (!in(-1, address, 15) || !in(1, mark, 99) || !in(0, target, 15)) {
            return OUTSIDE;
        }
        if (mine(address)) {
            return STATE;
        }
        if (own != null && own == target) {
            if (address != NONE) {
                heard(address, mark);
            }
            goesOut(3, address, address == NONE ? 0 : mark, 0);
            return 1;
        }
        if (trial != null && trial == target && address == NONE) {
            doubled.add(trial);
            trial = null;
            return 2;
        }
        return 0;
    }

    int told(int address, int mark, int life, int rank) {
        if (!in(0, address, 15) || !in(1, mark, 99) || !in(0, life, 200) || !in(-1, rank, 1)) {
            return OUTSIDE;
        }
        if (mine(address)) {
            return STATE;
        }
        if (!routers.containsKey(address) && life > 0 && routers.size() == 4) {
            return FULL;
        }
        heard(address, mark);
        routers.remove(address);
        if (life > 0) {
            routers.put(address, new Router(address, rank, clock + life));
            madeRouter = true;
        }
        return routers.size();
    }

    int better(int from, int goal, int hop) {
        if (!in(0, from, 15) || !in(16, goal, 47) || !in(0, hop, 15)) {
            return OUTSIDE;
        }
        if (mine(hop)) {
            return STATE;
        }
        if (hop(goal) != from) {
            return 0;
        }
        kept.put(goal, hop);
        if (kept.size() == 5) {
            kept.remove(kept.keySet().iterator().next());
        }
        return 1;
    }

    int claim(int address) {
        if (!in(0, address, 15)) {
            return OUTSIDE;
        }
        if (own != null || trial != null || doubled.contains(address) || book.containsKey(address)
            || routers.containsKey(address) || kept.containsValue(address)) {
            return STATE;
        }
        trial = address;
        trialFrom = clock;
        goesOut(4, address, 0, 0);
        return clock + 10;
    }

    int give() {
        Integer given = own == null ? trial : own;
        own = null;
        trial = null;
        return given == null ? STATE : given;
    }

    /** Found by letting time pass over a copy, not by reckoning. */
    private int goneTick(Entry e) {
        int state = e.state;
        int end = e.end;
        int tries = e.tries;
        for (int tick = clock + 1; tick < clock + 500; tick++) {
            if (tick != end) {
                continue;
            }
            if (state == FRESH) {
                return NONE;
            }
            if (state == RESTING) {
                state = TRYING;
                tries = 0;
            }
            if (tries == 3) {
                return tick;
            }
            tries++;
            end = tick + (state == ASKING ? 6 : 4);
        }
        return NONE;
    }

    int entry(int address, int what) {
        Entry e = book.get(address);
        if (e == null) {
            return UNKNOWN;
        }
        if (!in(0, what, 7)) {
            return OUTSIDE;
        }
        int router = routers.containsKey(address) ? 1 : 0;
        return new int[] {e.state, e.mark, e.end, e.tries, e.held.size(), router, e.used, goneTick(e)}[what];
    }

    int held(int address, int place) {
        Entry e = book.get(address);
        return e == null || !in(0, place, e.held.size() - 1) ? UNKNOWN : e.held.get(place);
    }

    int router(int place, int what) {
        if (!in(0, place, routers.size() - 1)) {
            return UNKNOWN;
        }
        if (!in(0, what, 3)) {
            return OUTSIDE;
        }
        Router r = ordered().get(place);
        return new int[] {r.address(), r.rank(), r.end(), good(r.address()) ? 1 : 0}[what];
    }

    int hop(int goal) {
        if (!in(16, goal, 47)) {
            return OUTSIDE;
        }
        if (kept.containsKey(goal)) {
            return kept.get(goal);
        }
        if (routers.isEmpty()) {
            return NONE;
        }
        if (!byTurn(goal)) {
            return ordered().get(0).address();
        }
        Integer next = turn == null ? null : routers.higherKey(turn);
        return next == null ? routers.firstKey() : next;
    }

    int out(int place, int what) {
        if (!in(0, place, Math.min(10, sent.size()) - 1)) {
            return UNKNOWN;
        }
        return in(0, what, 4) ? sent.get(sent.size() - 1 - place).tell(what) : OUTSIDE;
    }

    int about(int what) {
        return switch (what) {
            case 0 -> clock;
            case 1 -> own == null ? NONE : own;
            case 2 -> trial == null ? NONE : trial;
            case 3 -> trial == null ? NONE : trialFrom + 10;
            case 4 -> doubled.stream().mapToInt(address -> (int) Math.pow(2, address)).sum();
            case 5 -> turn == null ? NONE : turn;
            default -> OUTSIDE;
        };
    }

    int count(int what) {
        return switch (what) {
            case 0 -> book.size();
            case 1 -> routers.size();
            case 2 -> kept.size();
            case 3 -> book.values().stream().mapToInt(e -> e.held.size()).sum();
            case 4 -> lost;
            case 5 -> (int) sent.stream().filter(s -> s.sort() == 0).count();
            case 6 -> sent.size();
            case 7 -> gone;
            case 8 -> (int) book.values().stream().filter(e -> e.state == FRESH).count();
            default -> OUTSIDE;
        };
    }

    long digest() {
        List<Integer> numbers = new ArrayList<>();
        for (int what = 0; what <= 5; what++) {
            numbers.add(about(what));
        }
        for (int address = 0; address <= 15; address++) {
            if (!book.containsKey(address)) {
                numbers.add(NONE);
                continue;
            }
            for (int what = 0; what <= 7; what++) {
                numbers.add(entry(address, what));
            }
            numbers.addAll(book.get(address).held);
        }
        for (int place = 0; place < routers.size(); place++) {
            for (int what = 0; what <= 3; what++) {
                numbers.add(router(place, what));
            }
        }
        for (int goal = 16; goal <= 19; goal++) {
            numbers.add(hop(goal));
        }
        for (int place = 0; place < Math.min(10, sent.size()); place++) {
            for (int what = 0; what <= 4; what++) {
                numbers.add(out(place, what));
            }
        }
        for (int what = 0; what <= 8; what++) {
            numbers.add(count(what));
        }
        long h = 1523L;
        for (int number : numbers) {
            h = 31L * h + number;
        }
        return h;
    }

    /** Which of the rare things has happened, so that a test can see that its runs reach them. */
    boolean allRoutersDoubtful() {
        return !routers.isEmpty() && routers.keySet().stream().noneMatch(this::good);
    }
}

import java.util.ArrayList;
import java.util.List;

/** Which HOPS are kept, followed from outside by what better() answers and whose ENTRY is GONE: no call tells it. */
final class Kept {
    private final List<int[]> hops = new ArrayList<>();

    void follow(Seen before, Walk.Step step, long answer, Seen now) {
        if (before.count[2] == 0) {
            // Also where another walk begins.
            hops.clear();
        }
        if (step.is("better") && answer == 1) {
            keep(step.a()[1], step.a()[2]);
        }
        hops.removeIf(one -> before.has(one[1]) && !now.has(one[1]));
    }

    private void keep(int goal, int hop) {
        for (int[] one : hops) {
            if (one[0] == goal) {
                one[1] = hop;
                return;
            }
        }
        if (hops.size() == 4) {
            hops.remove(0);
        }
        hops.add(new int[] {goal, hop});
    }

    int size() {
        return hops.size();
    }

    /** The HOP that is kept for a GOAL; -1: there is none. */
    int hopOf(int goal) {
        for (int[] one : hops) {
            if (one[0] == goal) {
                return one[1];
            }
        }
        return -1;
    }

    boolean leadTo(int address) {
        return hops.stream().anyMatch(one -> one[1] == address);
    }
}

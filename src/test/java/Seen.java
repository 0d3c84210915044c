import java.util.ArrayList;
import java.util.List;

/** All that a book tells of itself at one moment. */
final class Seen {
    final int[] about = new int[6];
    final int[] count = new int[9];
    final int[][] entry = new int[16][];
    final int[][] held = new int[16][];
    final List<int[]> routers = new ArrayList<>();
    final List<int[]> outs = new ArrayList<>();
    final int[] hop = new int[32];
    final long digest;

    Seen(StationBook x) {
        for (int what = 0; what < about.length; what++) {
            about[what] = x.about(what);
        }
        for (int what = 0; what < count.length; what++) {
            count[what] = x.count(what);
        }
        for (int address = 0; address < entry.length; address++) {
            if (x.entry(address, 0) >= 0) {
                seeEntry(x, address);
            }
        }
        for (int place = 0; x.router(place, 0) >= 0; place++) {
            routers.add(new int[] {x.router(place, 0), x.router(place, 1), x.router(place, 2), x.router(place, 3)});
        }
        for (int place = 0; x.out(place, 0) >= 0; place++) {
            outs.add(new int[] {x.out(place, 0), x.out(place, 1), x.out(place, 2), x.out(place, 3), x.out(place, 4)});
        }
        for (int i = 0; i < hop.length; i++) {
            hop[i] = x.hop(16 + i);
        }
        digest = x.digest();
    }

    private void seeEntry(StationBook x, int address) {
        entry[address] = new int[8];
        for (int what = 0; what < 8; what++) {
            entry[address][what] = x.entry(address, what);
        }
        held[address] = new int[entry[address][4]];
        for (int place = 0; place < held[address].length; place++) {
            held[address][place] = x.held(address, place);
        }
    }

    int clock() {
        return about[0];
    }

    boolean has(int address) {
        return entry[address] != null;
    }

    int state(int address) {
        return has(address) ? entry[address][0] : -1;
    }

    int mark(int address) {
        return has(address) ? entry[address][1] : 0;
    }

    int[] routerAt(int address) {
        for (int[] router : routers) {
            if (router[0] == address) {
                return router;
            }
        }
        return null;
    }

    boolean isRouter(int address) {
        return routerAt(address) != null;
    }

    /** The STALE one that would be GONE where a sixth is to come; -1: there is no room. */
    int wouldGo() {
        int found = -1;
        for (int address = 0; address < 16; address++) {
            if (state(address) == 2 && (found == -1 || entry[address][6] < entry[found][6])) {
                found = address;
            }
        }
        return found;
    }

    boolean hasRoom() {
        return count[0] < 5 || wouldGo() != -1;
    }
}

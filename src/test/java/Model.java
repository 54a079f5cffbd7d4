import java.util.ArrayList;
import java.util.List;

/**
 * The document once more, with circulations found by augmenting paths where the program looks at
 * sets of vertices, so that one fault in the reasoning does not hide in both.
 */
final class Model {
    private static final int SOURCE = 6;
    private static final int SINK = 7;
    private static final int MOST_THROUGH = 12 * 20;

    private final List<int[]> network = new ArrayList<>();

    int arc(int from, int to, int most) {
        if (outside(from, 5) || outside(to, 5) || from == to) {
            return -1;
        }
        if (outside(most, 20)) {
            return -2;
        }
        if (network.size() == 12) {
            return -3;
        }
        network.add(new int[] {from, to, 0, most});
        return network.size() - 1;
    }

    int bounds(int arc, int least, int most) {
        if (outside(arc, network.size() - 1)) {
            return -4;
        }
        if (outside(least, 20) || outside(most, 20) || least > most) {
            return -2;
        }
        network.get(arc)[2] = least;
        network.get(arc)[3] = most;
        return 0;
    }

    int reverse(int arc) {
        if (outside(arc, network.size() - 1)) {
            return -4;
        }
        int[] old = network.get(arc);
        network.set(arc, new int[] {old[1], old[0], old[2], old[3]});
        return 0;
    }

    int dropLast() {
        if (network.isEmpty()) {
            return -4;
        }
        network.remove(network.size() - 1);
        return network.size();
    }

    int arcs() {
        return network.size();
    }

    boolean possible() {
        return hasCirculation(network);
    }

    int lack() {
        int greatest = 0;
        for (int set = 1; set < 64; set++) {
            greatest = Math.max(greatest, lackOf(set));
        }
        return greatest;
    }

    /** The smallest set by size, by a way other than the meeting of all sets. */
    int lackingSet() {
        int greatest = lack();
        int smallest = 63;
        int size = 7;
        for (int set = 0; set < 64; set++) {
            if (lackOf(set) == greatest && Integer.bitCount(set) < size) {
                smallest = set;
                size = Integer.bitCount(set);
            }
        }
        return smallest;
    }

    int least(int arc) {
        if (outside(arc, network.size() - 1)) {
            return -4;
        }
        for (int amount = network.get(arc)[2]; amount <= network.get(arc)[3]; amount++) {
            if (possibleWith(arc, amount)) {
                return amount;
            }
        }
        return -5;
    }

    int most(int arc) {
        if (outside(arc, network.size() - 1)) {
            return -4;
        }
        for (int amount = network.get(arc)[3]; amount >= network.get(arc)[2]; amount--) {
            if (possibleWith(arc, amount)) {
                return amount;
            }
        }
        return -5;
    }

    int through(int s, int t) {
        if (outside(s, 5) || outside(t, 5) || s == t) {
            return -1;
        }
        for (int amount = MOST_THROUGH; amount >= 0; amount--) {
            List<int[]> more = new ArrayList<>(network);
            more.add(new int[] {t, s, amount, amount});
            if (hasCirculation(more)) {
                return amount;
            }
        }
        return -5;
    }

    private static boolean outside(int number, int last) {
        return number < 0 || number > last;
    }

    int lackOf(int set) {
        int in = 0;
        int out = 0;
        for (int[] arc : network) {
            boolean fromInside = (set & 1 << arc[0]) != 0;
            boolean toInside = (set & 1 << arc[1]) != 0;
            in += !fromInside && toInside ? arc[2] : 0;
            out += fromInside && !toInside ? arc[3] : 0;
        }
        return in - out;
    }

    private boolean possibleWith(int arc, int amount) {
        List<int[]> fixed = new ArrayList<>(network);
        fixed.set(arc, new int[] {network.get(arc)[0], network.get(arc)[1], amount, amount});
        return hasCirculation(fixed);
    }

    /** The least amounts flow already; what they bring and take must be carried on by the room above them. */
    private static boolean hasCirculation(List<int[]> arcs) {
        int[][] room = new int[8][8];
        int owed = 0;
        for (int[] arc : arcs) {
            room[arc[0]][arc[1]] += arc[3] - arc[2];
            room[SOURCE][arc[1]] += arc[2];
            room[arc[0]][SINK] += arc[2];
            owed += arc[2];
        }
        for (int sent = augment(room); sent > 0; sent = augment(room)) {
            owed -= sent;
        }
        return owed == 0;
    }

    private static int augment(int[][] room) {
        int[] before = {-1, -1, -1, -1, -1, -1, SOURCE, -1};
        int[] queue = new int[8];
        queue[0] = SOURCE;
        int reached = 1;
        for (int i = 0; i < reached; i++) {
            for (int v = 0; v < 8; v++) {
                if (before[v] < 0 && room[queue[i]][v] > 0) {
                    before[v] = queue[i];
                    queue[reached++] = v;
                }
            }
        }
        if (before[SINK] < 0) {
            return 0;
        }
        int amount = Integer.MAX_VALUE;
        for (int v = SINK; v != SOURCE; v = before[v]) {
            amount = Math.min(amount, room[before[v]][v]);
        }
        for (int v = SINK; v != SOURCE; v = before[v]) {
            room[before[v]][v] -= amount;
            room[v][before[v]] += amount;
        }
        return amount;
    }
}

/**
 * Flows around a network of six vertices with at most twelve arcs.
 *
 * Every answer about circulations is read off the lacks of the 64 vertex sets: by Hoffman's theorem
 * there is a circulation exactly if no set has a lack above 0, so no flow is ever built.
 */
public final class CirculationRange {
    public static final int BAD_VERTEX = -1;
    public static final int BAD_AMOUNT = -2;
    public static final int FULL = -3;
    public static final int NO_ARC = -4;
    public static final int NONE = -5;

    private static final int VERTICES = 6;
    private static final int SETS = 64;
    private static final int MAX_ARCS = 12;
    private static final int MAX_AMOUNT = 20;

    private final int[] start = new int[MAX_ARCS];
    private final int[] end = new int[MAX_ARCS];
    private final int[] low = new int[MAX_ARCS];
    private final int[] high = new int[MAX_ARCS];
    private int count;

    public CirculationRange() {
        count = 0;
    }

    public int arc(int from, int to, int most) {
        if (!areTwoVertices(from, to)) {
            return BAD_VERTEX;
        }
        if (most < 0 || most > MAX_AMOUNT) {
            return BAD_AMOUNT;
        }
        if (count >= MAX_ARCS) {
            return FULL;
        }
        int added = count;
        start[added] = from;
        end[added] = to;
        // A dropped arc may have left a least amount above 0 in this place.
        low[added] = 0;
        high[added] = most;
        count = added + 1;
        return added;
    }

    public int bounds(int arc, int least, int most) {
        if (!isArc(arc)) {
            return NO_ARC;
        }
        if (least < 0 || least > most || most > MAX_AMOUNT) {
            return BAD_AMOUNT;
        }
        low[arc] = least;
        high[arc] = most;
        return 0;
    }

    public int reverse(int arc) {
        if (!isArc(arc)) {
            return NO_ARC;
        }
        int from = start[arc];
        start[arc] = end[arc];
        end[arc] = from;
        return 0;
    }

    public int dropLast() {
        if (count <= 0) {
            return NO_ARC;
        }
        count = count - 1;
        return count;
    }

    public boolean possible() {
        return greatestLack() == 0;
    }

    public int lack() {
        return greatestLack();
    }

    public int lackingSet() {
        int greatest = greatestLack();
        int common = SETS - 1;
        for (int set = 0; set < SETS; set++) {
            if (lackOf(set) == greatest) {
                common = common & set;
            }
        }
        return common;
    }

    public int least(int arc) {
        if (!isArc(arc)) {
            return NO_ARC;
        }
        if (greatestLack() != 0) {
            return NONE;
        }
        int from = start[arc];
        int to = end[arc];
        int answer = low[arc];
        for (int set = 0; set < SETS; set++) {
            if (crosses(set, from, to)) {
                // What the set would lack if this arc took nothing out of it must come out through the arc.
                int needed = lackOf(set) + high[arc];
                answer = needed > answer ? needed : answer;
            }
        }
        return answer;
    }

    public int most(int arc) {
        if (!isArc(arc)) {
            return NO_ARC;
        }
        if (greatestLack() != 0) {
            return NONE;
        }
        int from = start[arc];
        int to = end[arc];
        int answer = high[arc];
        for (int set = 0; set < SETS; set++) {
            if (crosses(set, to, from)) {
                // The arc brings no more into the set than the other arcs can take out of it.
                int room = low[arc] - lackOf(set);
                answer = room < answer ? room : answer;
            }
        }
        return answer;
    }

    public int through(int s, int t) {
        if (!areTwoVertices(s, t)) {
            return BAD_VERTEX;
        }
        int amount = roomFrom(s, t);
        // A smaller amount would help no set: those that the arc from t to s enters have room for this one.
        if (amount < 0 || !isPossibleWith(t, s, amount)) {
            return NONE;
        }
        return amount;
    }

    public int arcs() {
        return count;
    }

    private boolean isArc(int arc) {
        return arc >= 0 && arc < count;
    }

    private boolean areTwoVertices(int a, int b) {
        return a >= 0 && a < VERTICES && b >= 0 && b < VERTICES && a != b;
    }

    private boolean contains(int set, int vertex) {
        return (set >> vertex & 1) == 1;
    }

    /** Whether an arc from 'from' to 'to' goes out of the set. */
    private boolean crosses(int set, int from, int to) {
        return contains(set, from) && !contains(set, to);
    }

    private int lackOf(int set) {
        int sum = 0;
        for (int i = 0; i < count; i++) {
            if (crosses(set, end[i], start[i])) {
                sum = sum + low[i];
            }
            if (crosses(set, start[i], end[i])) {
                sum = sum - high[i];
            }
        }
        return sum;
    }

    private int greatestLack() {
        // The empty set lacks 0, so no greatest lack is below that.
        int greatest = 0;
        for (int set = 0; set < SETS; set++) {
            int lack = lackOf(set);
            greatest = lack > greatest ? lack : greatest;
        }
        return greatest;
    }

    /** The most that every set with s and without t can still let out; below 0 if one of them lacks. */
    private int roomFrom(int s, int t) {
        int smallest = -lackOf(1 << s);
        for (int set = 0; set < SETS; set++) {
            if (crosses(set, s, t)) {
                int room = -lackOf(set);
                smallest = room < smallest ? room : smallest;
            }
        }
        return smallest;
    }

    /** Whether there is a circulation if one more arc is added, which carries just the amount. */
    private boolean isPossibleWith(int from, int to, int amount) {
        for (int set = 0; set < SETS; set++) {
            int lack = lackOf(set);
            if (crosses(set, to, from)) {
                lack = lack + amount;
            }
            if (crosses(set, from, to)) {
                lack = lack - amount;
            }
            if (lack > 0) {
                return false;
            }
        }
        return true;
    }
}

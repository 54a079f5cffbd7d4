import java.util.Arrays;

/** Small networks, where every way to give the arcs amounts can be tried in turn. */
public final class EnumerationTest {
    private static final int NETWORKS = 3000;
    private static final int NO_ANSWER = -5;

    private final int[][] arcs;
    private final int[] least;
    private final int[] most;
    private final int[][] through = new int[6][6];
    private boolean possible = false;

    private EnumerationTest(int[][] arcs) {
        this.arcs = arcs;
        least = new int[arcs.length];
        most = new int[arcs.length];
        Arrays.fill(least, NO_ANSWER);
        Arrays.fill(most, NO_ANSWER);
        for (int[] row : through) {
            Arrays.fill(row, NO_ANSWER);
        }
    }

    public static void main(String[] args) {
        Numbers numbers = new Numbers(77);
        for (int i = 0; i < NETWORKS; i++) {
            EnumerationTest network = new EnumerationTest(someArcs(numbers));
            network.tryAllAmounts();
            network.compare("network " + i + " " + Arrays.deepToString(network.arcs) + ": ");
        }
        Check.end();
    }

    private static int[][] someArcs(Numbers numbers) {
        int[][] arcs = new int[numbers.between(1, 6)][];
        int vertices = numbers.between(2, 4);
        for (int i = 0; i < arcs.length; i++) {
            int from = numbers.below(vertices);
            int to = (from + numbers.between(1, vertices - 1)) % vertices;
            int low = numbers.below(3);
            arcs[i] = new int[] {from, to, low, numbers.between(low, 3)};
        }
        return arcs;
    }

    private void tryAllAmounts() {
        int[] amounts = new int[arcs.length];
        for (int i = 0; i < arcs.length; i++) {
            amounts[i] = arcs[i][2];
        }
        boolean more = true;
        while (more) {
            note(amounts);
            more = step(amounts);
        }
    }

    private boolean step(int[] amounts) {
        for (int i = 0; i < arcs.length; i++) {
            if (amounts[i] < arcs[i][3]) {
                amounts[i]++;
                return true;
            }
            amounts[i] = arcs[i][2];
        }
        return false;
    }

    private void note(int[] amounts) {
        int[] surplus = new int[6];
        for (int i = 0; i < arcs.length; i++) {
            surplus[arcs[i][0]] -= amounts[i];
            surplus[arcs[i][1]] += amounts[i];
        }
        if (Arrays.equals(surplus, new int[6])) {
            noteCirculation(amounts);
        }
        for (int s = 0; s < 6; s++) {
            for (int t = 0; t < 6; t++) {
                noteSent(surplus, s, t);
            }
        }
    }

    private void noteCirculation(int[] amounts) {
        for (int i = 0; i < arcs.length; i++) {
            least[i] = possible ? Math.min(least[i], amounts[i]) : amounts[i];
            most[i] = Math.max(most[i], amounts[i]);
        }
        possible = true;
    }

    private void noteSent(int[] surplus, int s, int t) {
        int[] closed = surplus.clone();
        closed[s] += surplus[t];
        closed[t] -= surplus[t];
        if (surplus[t] >= 0 && Arrays.equals(closed, new int[6])) {
            through[s][t] = Math.max(through[s][t], surplus[t]);
        }
    }

    private void compare(String place) {
        CirculationRange x = new CirculationRange();
        for (int i = 0; i < arcs.length; i++) {
            Check.due(place + "arc", x.arc(arcs[i][0], arcs[i][1], arcs[i][3]), i);
            Check.due(place + "bounds", x.bounds(i, arcs[i][2], arcs[i][3]), 0);
        }
        Check.due(place + "possible()", x.possible(), possible);
        Check.due(place + "lack() == 0", x.lack() == 0, possible);
        for (int i = 0; i < arcs.length; i++) {
            Check.due(place + "least(" + i + ")", x.least(i), least[i]);
            Check.due(place + "most(" + i + ")", x.most(i), most[i]);
        }
        for (int s = 0; s < 6; s++) {
            for (int t = 0; t < 6; t++) {
                int want = s == t ? -1 : through[s][t];
                Check.due(place + "through(" + s + ", " + t + ")", x.through(s, t), want);
            }
        }
    }
}

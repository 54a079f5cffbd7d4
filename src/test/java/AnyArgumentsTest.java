import java.util.List;
import java.util.function.ToIntFunction;

/** Every call with every argument from around the limits, on a network of each kind, against the model. */
public final class AnyArgumentsTest {
    private static final int[] NUMBERS = {
        Integer.MIN_VALUE, Integer.MIN_VALUE + 1, -64, -32, -1, 0, 1, 3, 4, 5, 6, 11, 12, 13, 19, 20, 21, 31, 32, 63,
        64, Integer.MAX_VALUE - 1, Integer.MAX_VALUE};

    /** Rows of: from, to, least, most. */
    private static final List<int[][]> NETWORKS = List.of(
            new int[][] {},
            new int[][] {{0, 1, 0, 5}, {1, 2, 2, 6}, {2, 0, 0, 9}, {0, 1, 1, 3}},
            new int[][] {{0, 1, 5, 5}},
            new int[][] {{5, 4, 20, 20}, {4, 5, 20, 20}},
            twelve(0),
            twelve(7));

    public static void main(String[] args) {
        for (int[][] network : NETWORKS) {
            for (int a : NUMBERS) {
                one(network, a);
                for (int b : NUMBERS) {
                    two(network, a, b);
                    for (int c : NUMBERS) {
                        three(network, a, b, c);
                    }
                }
            }
        }
        Check.end();
    }

    private static int[][] twelve(int least) {
        int[][] arcs = new int[12][];
        for (int i = 0; i < 12; i++) {
            arcs[i] = new int[] {i % 6, (i * 2 + 1) % 6 == i % 6 ? (i + 2) % 6 : (i * 2 + 1) % 6, least, 20 - i};
        }
        return arcs;
    }

    private static void one(int[][] network, int a) {
        compare(network, "reverse(" + a + ")", x -> x.reverse(a), m -> m.reverse(a));
        compare(network, "least(" + a + ")", x -> x.least(a), m -> m.least(a));
        compare(network, "most(" + a + ")", x -> x.most(a), m -> m.most(a));
    }

    private static void two(int[][] network, int a, int b) {
        compare(network, "through(" + a + ", " + b + ")", x -> x.through(a, b), m -> m.through(a, b));
    }

    private static void three(int[][] network, int a, int b, int c) {
        String numbers = "(" + a + ", " + b + ", " + c + ")";
        compare(network, "arc" + numbers, x -> x.arc(a, b, c), m -> m.arc(a, b, c));
        compare(network, "bounds" + numbers, x -> x.bounds(a, b, c), m -> m.bounds(a, b, c));
    }

    private static void compare(int[][] network, String call, ToIntFunction<CirculationRange> program,
            ToIntFunction<Model> model) {
        CirculationRange x = new CirculationRange();
        Model m = new Model();
        for (int i = 0; i < network.length; i++) {
            x.arc(network[i][0], network[i][1], network[i][3]);
            x.bounds(i, network[i][2], network[i][3]);
            m.arc(network[i][0], network[i][1], network[i][3]);
            m.bounds(i, network[i][2], network[i][3]);
        }
        String place = network.length + " arcs, " + call;
        Check.due(place, program.applyAsInt(x), model.applyAsInt(m));
        Check.due(place + ", then arcs()", x.arcs(), m.arcs());
        Check.due(place + ", then lack()", x.lack(), m.lack());
        Check.due(place + ", then lackingSet()", x.lackingSet(), m.lackingSet());
        Check.due(place + ", then possible()", x.possible(), m.possible());
    }
}

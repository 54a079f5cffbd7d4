import java.util.function.Supplier;

/** The arcs that an object holds, each with its vertices and amounts, read from outside. */
final class ArcList {
    private ArcList() {
    }

    /** Each arc is read from an object of its own, because reading it shuts all the others. */
    static String of(Supplier<CirculationRange> made) {
        StringBuilder line = new StringBuilder();
        int arcs = made.get().arcs();
        for (int arc = 0; arc < arcs; arc++) {
            line.append(arc == 0 ? "" : ", ").append(alone(made.get(), arc));
        }
        return line.toString();
    }

    private static String alone(CirculationRange x, int arc) {
        for (int other = 0; other < x.arcs(); other++) {
            if (other != arc) {
                x.bounds(other, 0, 0);
            }
        }
        int least = x.lack();
        int most = greatestThrough(x);
        // An arc that must carry something makes the vertex lack at which it ends.
        x.bounds(arc, 1, 1);
        int to = x.lackingSet();
        x.reverse(arc);
        int from = x.lackingSet();
        return vertices(from) + ">" + vertices(to) + " " + least + ".." + most;
    }

    private static int greatestThrough(CirculationRange x) {
        int greatest = CirculationRange.NONE;
        for (int s = 0; s < 6; s++) {
            for (int t = 0; t < 6; t++) {
                greatest = Math.max(greatest, x.through(s, t));
            }
        }
        return greatest;
    }

    private static String vertices(int set) {
        StringBuilder inside = new StringBuilder();
        for (int v = 0; v < 6; v++) {
            inside.append((set >> v & 1) == 1 ? String.valueOf(v) : "");
        }
        return inside.toString();
    }
}

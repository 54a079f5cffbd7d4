/** The networks that several tests begin with. */
final class Networks {
    private Networks() {
    }

    /** A ring 0, 1, 2, 0 that carries 2 to 6, with two ways from 0 to 1. */
    static CirculationRange ring() {
        CirculationRange x = new CirculationRange();
        x.arc(0, 1, 5);
        x.arc(1, 2, 7);
        x.arc(2, 0, 9);
        x.arc(0, 1, 3);
        x.bounds(1, 2, 6);
        x.bounds(3, 1, 3);
        return x;
    }

    /** As many arcs as there can be: twice round all vertices. */
    static CirculationRange twelveArcs() {
        CirculationRange x = new CirculationRange();
        for (int i = 0; i < 12; i++) {
            x.arc(i % 6, (i + 1) % 6, 20 - i);
        }
        return x;
    }

    /** Twelve arcs, of which each must carry something, without a circulation. */
    static CirculationRange twelveLackingArcs() {
        CirculationRange x = twelveArcs();
        for (int i = 0; i < 12; i++) {
            x.bounds(i, 1 + i / 2, 20 - i);
        }
        x.bounds(0, 20, 20);
        x.bounds(1, 1, 3);
        x.bounds(7, 2, 3);
        return x;
    }

    /** A ring through all vertices, on which each arc carries 0 to 20. */
    static CirculationRange wideRing() {
        CirculationRange x = new CirculationRange();
        for (int v = 0; v < 6; v++) {
            x.arc(v, (v + 1) % 6, 20);
        }
        return x;
    }

    /** No circulation: 5 must flow into 1, and nothing can flow out of it. */
    static CirculationRange lacking() {
        return oneArc(0, 1, 5, 5);
    }

    static CirculationRange oneArc(int from, int to, int least, int most) {
        CirculationRange x = new CirculationRange();
        x.arc(from, to, most);
        x.bounds(0, least, most);
        return x;
    }

    /** Two vertices with an arc there and an arc back. */
    static CirculationRange thereAndBack(int leastThere, int mostThere, int leastBack, int mostBack) {
        CirculationRange x = oneArc(0, 1, leastThere, mostThere);
        x.arc(1, 0, mostBack);
        x.bounds(1, leastBack, mostBack);
        return x;
    }
}

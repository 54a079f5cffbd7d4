/** All that an object can be asked, in one line: two objects in the same state have the same line. */
final class Answers {
    private Answers() {
    }

    /** Takes 58 calls. */
    static String of(CirculationRange x) {
        StringBuilder line = new StringBuilder();
        line.append(x.arcs()).append(' ').append(x.possible()).append(' ');
        line.append(x.lack()).append(' ').append(x.lackingSet());
        for (int arc = 0; arc < 12; arc++) {
            line.append(' ').append(x.least(arc)).append("..").append(x.most(arc));
        }
        for (int s = 0; s < 6; s++) {
            for (int t = 0; t < 6; t++) {
                if (s != t) {
                    line.append(' ').append(x.through(s, t));
                }
            }
        }
        return line.toString();
    }
}

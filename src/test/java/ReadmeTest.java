/** The example in README.md, call by call: whoever changes one of the two changes both. */
public final class ReadmeTest {
    public static void main(String[] args) {
        CirculationRange network = new CirculationRange();
        Check.due("arc(0, 1, 5)", network.arc(0, 1, 5), 0);
        Check.due("arc(1, 2, 7)", network.arc(1, 2, 7), 1);
        Check.due("arc(2, 0, 9)", network.arc(2, 0, 9), 2);
        Check.due("bounds(2, 3, 9)", network.bounds(2, 3, 9), 0);
        Check.due("possible()", network.possible(), true);
        Check.due("least(0)", network.least(0), 3);
        Check.due("most(1)", network.most(1), 5);
        Check.due("through(0, 1)", network.through(0, 1), 2);
        Check.due("reverse(2)", network.reverse(2), 0);
        Check.due("possible() after reverse(2)", network.possible(), false);
        Check.due("lack()", network.lack(), 3);
        Check.due("lackingSet()", network.lackingSet(), 4);
        Check.due("least(0) after reverse(2)", network.least(0), -5);
        Check.due("dropLast()", network.dropLast(), 2);
        Check.due("arcs()", network.arcs(), 2);
        Check.end();
    }
}

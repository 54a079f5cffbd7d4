/** Each promise of the document by hand: ordinary inputs, the edges that it names, and wrong inputs. */
public final class PromiseTest {
    private static final int[] NO_VERTICES = {-1, 6, 32, Integer.MIN_VALUE, Integer.MAX_VALUE};
    private static final int[] NO_AMOUNTS = {-1, 21, Integer.MIN_VALUE, Integer.MAX_VALUE};

    public static void main(String[] args) {
        newObject();
        arcAnswers();
        arcRefusals();
        arcAfterDropLast();
        boundsAnswers();
        boundsRefusals();
        reverseAnswers();
        reverseRefusals();
        dropLastAnswers();
        possibleAnswers();
        lackAnswers();
        lackingSetAnswers();
        leastAndMostAnswers();
        leastAndMostRefusals();
        throughAnswers();
        throughWithoutCirculation();
        throughRefusals();
        arcsAnswers();
        orderOfRefusals();
        questionsChangeNothing();
        objectsAreApart();
        Check.end();
    }

    /** A ring 0, 1, 2, 0 that carries 2 to 6, with two ways from 0 to 1. */
    private static CirculationRange ring() {
        CirculationRange x = new CirculationRange();
        x.arc(0, 1, 5);
        x.arc(1, 2, 7);
        x.arc(2, 0, 9);
        x.arc(0, 1, 3);
        x.bounds(1, 2, 6);
        x.bounds(3, 1, 3);
        return x;
    }

    private static CirculationRange twelveArcs() {
        CirculationRange x = new CirculationRange();
        for (int i = 0; i < 12; i++) {
            x.arc(i % 6, (i + 1) % 6, 20 - i);
        }
        return x;
    }

    // Promise 1

    private static void newObject() {
        CirculationRange x = new CirculationRange();
        Check.due("new: arcs()", x.arcs(), 0);
        Check.due("new: possible()", x.possible(), true);
        Check.due("new: lack()", x.lack(), 0);
        Check.due("new: lackingSet()", x.lackingSet(), 0);
        Check.due("new: least(0)", x.least(0), -4);
        Check.due("new: most(0)", x.most(0), -4);
        Check.due("new: through(0, 5)", x.through(0, 5), 0);
        Check.due("new: bounds(0, 0, 0)", x.bounds(0, 0, 0), -4);
        Check.due("new: reverse(0)", x.reverse(0), -4);
        Check.due("new: dropLast()", x.dropLast(), -4);
        Check.due("new: arcs() after refusals", x.arcs(), 0);
        Check.due("new: arc(0, 1, 1)", x.arc(0, 1, 1), 0);
    }

    // Promise 2

    private static void arcAnswers() {
        CirculationRange x = new CirculationRange();
        Check.due("arc(0, 5, 20)", x.arc(0, 5, 20), 0);
        Check.due("arc(5, 0, 0)", x.arc(5, 0, 0), 1);
        Check.due("arc(5, 0, 7), the same two vertices", x.arc(5, 0, 7), 2);
        for (int i = 3; i < 12; i++) {
            Check.due("arc number " + i, x.arc(1, 2, 1), i);
        }
        Check.due("a thirteenth arc", x.arc(1, 2, 1), -3);
        Check.due("arcs() when full", x.arcs(), 12);
        Check.due("least(0): carries from 0", x.least(0), 0);
        Check.due("most(0): as much as arc 2 takes back", x.most(0), 7);
        Check.due("most(1): carries nothing", x.most(1), 0);
        Check.due("through(0, 5): all that arc 0 carries", x.through(0, 5), 20);
        Check.due("through(5, 0)", x.through(5, 0), 7);
        Check.due("through(1, 2): nine arcs together", x.through(1, 2), 9);
    }

    private static void arcRefusals() {
        for (int bad : NO_VERTICES) {
            refusedArc(ring(), bad, 1, 5, -1);
            refusedArc(ring(), 1, bad, 5, -1);
        }
        for (int v = 0; v < 6; v++) {
            refusedArc(ring(), v, v, 5, -1);
        }
        for (int bad : NO_AMOUNTS) {
            refusedArc(ring(), 3, 4, bad, -2);
        }
        refusedArc(twelveArcs(), 3, 4, 5, -3);
        refusedArc(twelveArcs(), 3, 4, 0, -3);
    }

    private static void refusedArc(CirculationRange x, int from, int to, int most, int want) {
        String before = Answers.of(x);
        String call = "arc(" + from + ", " + to + ", " + most + ")";
        Check.due(call, x.arc(from, to, most), want);
        Check.due("all answers after " + call, Answers.of(x), before);
    }

    private static void arcAfterDropLast() {
        CirculationRange x = new CirculationRange();
        x.arc(0, 1, 9);
        x.bounds(0, 4, 9);
        x.dropLast();
        Check.due("arc in a dropped arc's place", x.arc(2, 3, 6), 0);
        Check.due("its least amount is 0 again: lack()", x.lack(), 0);
        Check.due("its vertices and greatest amount: through(2, 3)", x.through(2, 3), 6);
        Check.due("the dropped arc's vertices: through(0, 1)", x.through(0, 1), 0);
    }

    // Promise 3

    private static void boundsAnswers() {
        CirculationRange x = ring();
        Check.due("bounds(2, 3, 4)", x.bounds(2, 3, 4), 0);
        Check.due("least(2)", x.least(2), 3);
        Check.due("most(2)", x.most(2), 4);
        Check.due("bounds(2, 0, 20)", x.bounds(2, 0, 20), 0);
        Check.due("most(2) as far as arc 1 lets it", x.most(2), 6);
        Check.due("bounds(2, 4, 4), both the same", x.bounds(2, 4, 4), 0);
        Check.due("least(1)", x.least(1), 4);
        Check.due("most(1)", x.most(1), 4);
        Check.due("bounds(2, 20, 20)", x.bounds(2, 20, 20), 0);
        Check.due("lack() of 20 in, 8 out", x.lack(), 14);
        Check.due("bounds(2, 0, 0)", x.bounds(2, 0, 0), 0);
        Check.due("lack() with nothing back", x.lack(), 2);
        Check.due("arcs()", x.arcs(), 4);
    }

    private static void boundsRefusals() {
        refusedBounds(-1, 1, 2, -4);
        refusedBounds(4, 1, 2, -4);
        refusedBounds(12, 1, 2, -4);
        refusedBounds(Integer.MIN_VALUE, 1, 2, -4);
        refusedBounds(Integer.MAX_VALUE, 1, 2, -4);
        for (int arc = 0; arc < 4; arc++) {
            refusedBounds(arc, -1, 2, -2);
            refusedBounds(arc, Integer.MIN_VALUE, 2, -2);
            refusedBounds(arc, 3, 2, -2);
            refusedBounds(arc, 1, 0, -2);
            refusedBounds(arc, 1, 21, -2);
            refusedBounds(arc, 21, 21, -2);
            refusedBounds(arc, -2, -1, -2);
            refusedBounds(arc, 0, -1, -2);
            refusedBounds(arc, 0, Integer.MAX_VALUE, -2);
            refusedBounds(arc, Integer.MAX_VALUE, Integer.MIN_VALUE, -2);
            refusedBounds(arc, 21, 20, -2);
        }
        CirculationRange dropped = ring();
        dropped.dropLast();
        Check.due("bounds of the dropped arc", dropped.bounds(3, 0, 1), -4);
    }

    private static void refusedBounds(int arc, int least, int most, int want) {
        CirculationRange x = ring();
        String before = Answers.of(x);
        String call = "bounds(" + arc + ", " + least + ", " + most + ")";
        Check.due(call, x.bounds(arc, least, most), want);
        Check.due("all answers after " + call, Answers.of(x), before);
    }

    // Promise 4

    private static void reverseAnswers() {
        CirculationRange x = new CirculationRange();
        x.arc(0, 1, 20);
        x.arc(0, 1, 20);
        x.bounds(0, 3, 8);
        Check.due("lack() of two arcs side by side", x.lack(), 3);
        Check.due("lackingSet()", x.lackingSet(), 2);
        Check.due("reverse(0)", x.reverse(0), 0);
        Check.due("least(0) keeps its amount", x.least(0), 3);
        Check.due("most(0) keeps its amount", x.most(0), 8);
        Check.due("least(1) follows", x.least(1), 3);
        Check.due("most(1) follows", x.most(1), 8);
        Check.due("through(1, 0)", x.through(1, 0), 8);
        Check.due("through(0, 1)", x.through(0, 1), 17);
        Check.due("reverse(0) back", x.reverse(0), 0);
        Check.due("lack() as before", x.lack(), 3);
        Check.due("lackingSet() as before", x.lackingSet(), 2);
        Check.due("reverse(1), the last arc", x.reverse(1), 0);
        Check.due("least(1)", x.least(1), 3);
        Check.due("arcs()", x.arcs(), 2);
    }

    private static void reverseRefusals() {
        for (int bad : new int[] {-1, 4, 12, Integer.MIN_VALUE, Integer.MAX_VALUE}) {
            CirculationRange x = ring();
            String before = Answers.of(x);
            Check.due("reverse(" + bad + ")", x.reverse(bad), -4);
            Check.due("all answers after reverse(" + bad + ")", Answers.of(x), before);
        }
        CirculationRange full = twelveArcs();
        Check.due("reverse(11) of twelve", full.reverse(11), 0);
        Check.due("reverse(12) of twelve", full.reverse(12), -4);
    }

    // Promise 5

    private static void dropLastAnswers() {
        CirculationRange x = twelveArcs();
        for (int left = 11; left >= 0; left--) {
            Check.due("dropLast() to " + left, x.dropLast(), left);
            Check.due("arcs()", x.arcs(), left);
            Check.due("least of the dropped arc", x.least(left), -4);
        }
        Check.due("dropLast() of none", x.dropLast(), -4);
        Check.due("dropLast() of none again", x.dropLast(), -4);
        Check.due("arcs() of none", x.arcs(), 0);
        Check.due("arc after that", x.arc(0, 1, 1), 0);

        CirculationRange y = ring();
        y.arc(3, 4, 5);
        y.bounds(4, 5, 5);
        Check.due("lack() with the last arc", y.lack(), 5);
        Check.due("dropLast() of the lacking arc", y.dropLast(), 4);
        Check.due("all answers as before it", Answers.of(y), Answers.of(ring()));
    }

    // Promise 6

    private static void possibleAnswers() {
        CirculationRange x = ring();
        Check.due("possible() of the ring", x.possible(), true);
        x.bounds(2, 6, 6);
        Check.due("possible() where it just fits", x.possible(), true);
        x.bounds(2, 7, 7);
        Check.due("possible() with one too much", x.possible(), false);
        x.bounds(1, 0, 7);
        Check.due("possible() again", x.possible(), true);
        x.reverse(2);
        Check.due("possible() with no way back", x.possible(), false);

        CirculationRange zero = new CirculationRange();
        zero.arc(0, 1, 20);
        Check.due("possible() with nothing that must flow", zero.possible(), true);
        zero.bounds(0, 1, 20);
        Check.due("possible() with a dead end", zero.possible(), false);
    }

    // Promise 7

    private static void lackAnswers() {
        CirculationRange x = new CirculationRange();
        x.arc(0, 1, 10);
        x.arc(1, 0, 3);
        Check.due("lack() with nothing that must flow", x.lack(), 0);
        x.bounds(0, 3, 10);
        Check.due("lack() just not", x.lack(), 0);
        x.bounds(0, 7, 10);
        Check.due("lack() of {1}", x.lack(), 4);
        x.arc(2, 3, 5);
        x.bounds(2, 5, 5);
        Check.due("lack() of {1, 3}", x.lack(), 9);
        x.arc(3, 1, 2);
        Check.due("lack() with an arc inside the set", x.lack(), 9);
        x.arc(3, 4, 2);
        Check.due("lack() with a way on", x.lack(), 9);
        x.arc(3, 2, 2);
        Check.due("lack() with a way back", x.lack(), 7);

        CirculationRange greatest = new CirculationRange();
        for (int i = 0; i < 12; i++) {
            greatest.arc(0, 1, 20);
            greatest.bounds(i, 20, 20);
        }
        Check.due("lack() of twelve arcs of 20", greatest.lack(), 240);
        Check.due("possible()", greatest.possible(), false);
    }

    // Promise 8

    private static void lackingSetAnswers() {
        CirculationRange x = new CirculationRange();
        x.arc(0, 1, 4);
        Check.due("lackingSet() of lack 0", x.lackingSet(), 0);
        x.bounds(0, 4, 4);
        Check.due("lackingSet() of {1}, with which 2 to 5 lack as much", x.lackingSet(), 2);
        x.arc(1, 5, 4);
        Check.due("lackingSet() of {1, 5}", x.lackingSet(), 34);
        x.bounds(1, 0, 0);
        Check.due("lackingSet() of {1} and of {1, 5}", x.lackingSet(), 2);
        x.bounds(1, 4, 4);
        Check.due("lackingSet() of {5} and of {1, 5}", x.lackingSet(), 32);

        CirculationRange many = new CirculationRange();
        for (int v = 1; v < 6; v++) {
            many.arc(0, v, 1);
            many.bounds(v - 1, 1, 1);
        }
        Check.due("lackingSet() of all but 0", many.lackingSet(), 62);
        for (int arc = 0; arc < 5; arc++) {
            many.reverse(arc);
        }
        Check.due("lackingSet() of 0", many.lackingSet(), 1);
    }

    // Promises 9 and 10

    private static void leastAndMostAnswers() {
        CirculationRange x = ring();
        int[] least = {0, 2, 2, 1};
        int[] most = {5, 6, 6, 3};
        for (int arc = 0; arc < 4; arc++) {
            Check.due("least(" + arc + ") in the ring", x.least(arc), least[arc]);
            Check.due("most(" + arc + ") in the ring", x.most(arc), most[arc]);
        }
        x.bounds(2, 6, 9);
        Check.due("least(0) where arc 3 cannot carry all", x.least(0), 3);
        Check.due("least(3) where arc 0 cannot carry all", x.least(3), 1);
        x.bounds(2, 0, 2);
        Check.due("most(0) where arc 3 must carry 1", x.most(0), 1);
        Check.due("most(3) where arc 0 may carry none", x.most(3), 2);

        CirculationRange twoRings = new CirculationRange();
        twoRings.arc(0, 1, 20);
        twoRings.arc(1, 0, 20);
        twoRings.arc(4, 5, 8);
        twoRings.arc(5, 4, 6);
        twoRings.bounds(2, 5, 8);
        Check.due("most(0) of a ring alone", twoRings.most(0), 20);
        Check.due("least(0) of a ring alone", twoRings.least(0), 0);
        Check.due("least(3) of the other ring", twoRings.least(3), 5);
        Check.due("most(2) of the other ring", twoRings.most(2), 6);
    }

    private static void leastAndMostRefusals() {
        for (int bad : new int[] {-1, 4, 12, Integer.MIN_VALUE, Integer.MAX_VALUE}) {
            Check.due("least(" + bad + ")", ring().least(bad), -4);
            Check.due("most(" + bad + ")", ring().most(bad), -4);
        }
        CirculationRange x = ring();
        x.arc(3, 4, 1);
        x.bounds(4, 1, 1);
        for (int arc = 0; arc < 5; arc++) {
            Check.due("least(" + arc + ") without a circulation", x.least(arc), -5);
            Check.due("most(" + arc + ") without a circulation", x.most(arc), -5);
        }
    }

    // Promise 11

    private static void throughAnswers() {
        CirculationRange x = new CirculationRange();
        x.arc(0, 1, 5);
        x.arc(1, 2, 3);
        x.arc(0, 2, 4);
        Check.due("through(0, 2) by two ways", x.through(0, 2), 7);
        Check.due("through(0, 1)", x.through(0, 1), 5);
        Check.due("through(2, 0) against the arcs", x.through(2, 0), 0);
        Check.due("through(0, 5), no way", x.through(0, 5), 0);

        CirculationRange back = ring();
        Check.due("through(0, 1): 8 less the 2 that must go round", back.through(0, 1), 6);
        Check.due("through(1, 0): arc 1 carries 6, 1 must go round", back.through(1, 0), 5);

        CirculationRange wide = new CirculationRange();
        for (int i = 0; i < 12; i++) {
            wide.arc(4, 3, 20);
        }
        Check.due("through(4, 3) by twelve arcs", wide.through(4, 3), 240);
        Check.due("through(3, 4)", wide.through(3, 4), 0);
    }

    private static void throughWithoutCirculation() {
        CirculationRange x = new CirculationRange();
        x.arc(0, 1, 6);
        x.bounds(0, 2, 6);
        Check.due("possible() before", x.possible(), false);
        Check.due("through(0, 1): the arc back makes it possible", x.through(0, 1), 6);
        Check.due("through(1, 0): only below 0", x.through(1, 0), -5);
        Check.due("through(0, 2): does not help 1", x.through(0, 2), -5);
        Check.due("through(2, 1)", x.through(2, 1), -5);
        Check.due("through(2, 3): two other vertices", x.through(2, 3), -5);
        x.arc(1, 2, 1);
        Check.due("through(0, 2): 1 gets rid of too little", x.through(0, 2), -5);
        x.bounds(1, 0, 2);
        Check.due("through(0, 2): just enough", x.through(0, 2), 2);
        Check.due("possible() after", x.possible(), false);
        x.arc(3, 4, 20);
        Check.due("through(3, 4): more than is lacking, but elsewhere", x.through(3, 4), -5);

        CirculationRange zero = new CirculationRange();
        zero.arc(0, 1, 4);
        zero.arc(1, 0, 4);
        zero.bounds(0, 4, 4);
        Check.due("through(1, 0): all of it must go round", zero.through(1, 0), 0);
        Check.due("through(0, 1): none of it need", zero.through(0, 1), 4);
    }

    private static void throughRefusals() {
        for (int bad : NO_VERTICES) {
            Check.due("through(" + bad + ", 1)", ring().through(bad, 1), -1);
            Check.due("through(1, " + bad + ")", ring().through(1, bad), -1);
        }
        for (int v = 0; v < 6; v++) {
            Check.due("through(" + v + ", " + v + ")", ring().through(v, v), -1);
        }
    }

    // Promise 12

    private static void arcsAnswers() {
        CirculationRange x = new CirculationRange();
        for (int i = 1; i <= 12; i++) {
            x.arc(0, 1, 1);
            Check.due("arcs() after " + i, x.arcs(), i);
        }
        x.arc(0, 1, 1);
        Check.due("arcs() after a refused one", x.arcs(), 12);
        x.bounds(3, 1, 1);
        x.reverse(3);
        Check.due("arcs() after bounds and reverse", x.arcs(), 12);
        x.dropLast();
        Check.due("arcs() after dropLast", x.arcs(), 11);
    }

    // Promise 13

    private static void orderOfRefusals() {
        CirculationRange full = twelveArcs();
        Check.due("arc: vertex before amount before full", full.arc(6, 0, 21), -1);
        Check.due("arc: vertex before full", full.arc(2, 2, 5), -1);
        Check.due("arc: amount before full", full.arc(0, 1, 21), -2);
        Check.due("arc: full alone", full.arc(0, 1, 20), -3);
        Check.due("arc: vertex before amount", ring().arc(0, -1, -1), -1);
        Check.due("bounds: no arc before amount", ring().bounds(4, 3, 2), -4);
        CirculationRange lacking = new CirculationRange();
        lacking.arc(0, 1, 5);
        lacking.bounds(0, 5, 5);
        Check.due("least: no arc before none", lacking.least(1), -4);
        Check.due("most: no arc before none", lacking.most(1), -4);
        Check.due("least: no arc before none, below 0", lacking.least(-1), -4);
        Check.due("most: no arc before none, below 0", lacking.most(-1), -4);
        Check.due("through: vertex before none", lacking.through(6, 2), -1);
        Check.due("through: same vertex before none", lacking.through(2, 2), -1);
    }

    // "The calls below change nothing"

    private static void questionsChangeNothing() {
        CirculationRange lacking = twelveArcs();
        lacking.bounds(0, 20, 20);
        lacking.bounds(1, 0, 3);
        for (CirculationRange x : new CirculationRange[] {ring(), twelveArcs(), lacking, new CirculationRange()}) {
            String first = Answers.of(x);
            Check.due("all answers the second time", Answers.of(x), first);
            x.least(-1);
            x.most(12);
            x.through(0, 6);
            Check.due("all answers after refused questions", Answers.of(x), first);
        }
    }

    private static void objectsAreApart() {
        CirculationRange one = ring();
        CirculationRange other = new CirculationRange();
        String before = Answers.of(one);
        other.arc(4, 3, 2);
        other.bounds(0, 1, 2);
        Check.due("all answers after calls on another object", Answers.of(one), before);
        Check.due("the other object's arcs()", other.arcs(), 1);
    }
}

/** What each promise answers to ordinary calls, by hand; the boundary cases have tests of their own. */
public final class PromiseTest {
    public static void main(String[] args) {
        Check.each(
                PromiseTest::arcAnswers,
                PromiseTest::boundsAnswers,
                PromiseTest::reverseAnswers,
                PromiseTest::dropLastAnswers,
                PromiseTest::possibleAnswers,
                PromiseTest::lackAnswers,
                PromiseTest::lackingSetAnswers,
                PromiseTest::leastAndMostAnswers,
                PromiseTest::throughAnswers,
                PromiseTest::throughWithoutCirculation);
        Check.end();
    }

    // Promises 2 and 12

    private static void arcAnswers() {
        CirculationRange x = new CirculationRange();
        Check.due("arc(0, 5, 20)", x.arc(0, 5, 20), 0);
        Check.due("arc(5, 0, 0)", x.arc(5, 0, 0), 1);
        Check.due("arc(5, 0, 7), the same two vertices", x.arc(5, 0, 7), 2);
        for (int i = 3; i < 12; i++) {
            Check.due("arc number " + i, x.arc(1, 2, 1), i);
        }
        Check.due("a thirteenth arc", x.arc(1, 2, 1), -3);
        Check.due("arcs() when full", x.arcs(), 12);
        Check.due("least(0): carries from 0", x.least(0), 0);
        Check.due("most(0): as much as arc 2 takes back", x.most(0), 7);
        Check.due("most(1): carries nothing", x.most(1), 0);
        Check.due("through(0, 5): all that arc 0 carries", x.through(0, 5), 20);
        Check.due("through(5, 0)", x.through(5, 0), 7);
        Check.due("through(1, 2): nine arcs together", x.through(1, 2), 9);
    }

    // Promise 3

    private static void boundsAnswers() {
        CirculationRange x = Networks.ring();
        Check.due("bounds(2, 3, 4)", x.bounds(2, 3, 4), 0);
        Check.due("least(2)", x.least(2), 3);
        Check.due("most(2)", x.most(2), 4);
        Check.due("bounds(2, 0, 20)", x.bounds(2, 0, 20), 0);
        Check.due("most(2) as far as arc 1 lets it", x.most(2), 6);
        Check.due("bounds(2, 4, 4), both the same", x.bounds(2, 4, 4), 0);
        Check.due("least(1)", x.least(1), 4);
        Check.due("most(1)", x.most(1), 4);
        Check.due("bounds(2, 20, 20)", x.bounds(2, 20, 20), 0);
        Check.due("lack() of 20 in, 8 out", x.lack(), 14);
        Check.due("bounds(2, 0, 0)", x.bounds(2, 0, 0), 0);
        Check.due("lack() with nothing back", x.lack(), 2);
        Check.due("arcs()", x.arcs(), 4);
    }

    // Promise 4

    private static void reverseAnswers() {
        CirculationRange x = new CirculationRange();
        x.arc(0, 1, 20);
        x.arc(0, 1, 20);
        x.bounds(0, 3, 8);
        Check.due("lack() of two arcs side by side", x.lack(), 3);
        Check.due("lackingSet()", x.lackingSet(), 2);
        Check.due("reverse(0)", x.reverse(0), 0);
        Check.due("least(0) keeps its amount", x.least(0), 3);
        Check.due("most(0) keeps its amount", x.most(0), 8);
        Check.due("least(1) follows", x.least(1), 3);
        Check.due("most(1) follows", x.most(1), 8);
        Check.due("through(1, 0)", x.through(1, 0), 8);
        Check.due("through(0, 1)", x.through(0, 1), 17);
        Check.due("reverse(0) back", x.reverse(0), 0);
        Check.due("lack() as before", x.lack(), 3);
        Check.due("lackingSet() as before", x.lackingSet(), 2);
        Check.due("reverse(1), the last arc", x.reverse(1), 0);
        Check.due("least(1)", x.least(1), 3);
        Check.due("arcs()", x.arcs(), 2);
    }

    // Promise 5

    private static void dropLastAnswers() {
        CirculationRange x = Networks.twelveArcs();
        for (int left = 11; left >= 0; left--) {
            Check.due("dropLast() to " + left, x.dropLast(), left);
            Check.due("arcs()", x.arcs(), left);
            Check.due("least of the dropped arc", x.least(left), -4);
        }

        CirculationRange y = Networks.ring();
        y.arc(3, 4, 5);
        y.bounds(4, 5, 5);
        Check.due("lack() with the last arc", y.lack(), 5);
        Check.due("dropLast() of the lacking arc", y.dropLast(), 4);
        Check.due("all answers as before it", Answers.of(y), Answers.of(Networks.ring()));
    }

    // Promise 6

    private static void possibleAnswers() {
        CirculationRange x = Networks.ring();
        Check.due("possible() of the ring", x.possible(), true);
        x.bounds(2, 6, 6);
        Check.due("possible() where it just fits", x.possible(), true);
        x.bounds(2, 7, 7);
        Check.due("possible() with one too much", x.possible(), false);
        x.bounds(1, 0, 7);
        Check.due("possible() again", x.possible(), true);
        x.reverse(2);
        Check.due("possible() with no way back", x.possible(), false);

        CirculationRange zero = new CirculationRange();
        zero.arc(0, 1, 20);
        Check.due("possible() with nothing that must flow", zero.possible(), true);
        zero.bounds(0, 1, 20);
        Check.due("possible() with a dead end", zero.possible(), false);
    }

    // Promise 7

    private static void lackAnswers() {
        CirculationRange x = new CirculationRange();
        x.arc(0, 1, 10);
        x.arc(1, 0, 3);
        Check.due("lack() with nothing that must flow", x.lack(), 0);
        x.bounds(0, 3, 10);
        Check.due("lack() just not", x.lack(), 0);
        x.bounds(0, 7, 10);
        Check.due("lack() of {1}", x.lack(), 4);
        x.arc(2, 3, 5);
        x.bounds(2, 5, 5);
        Check.due("lack() of {1, 3}", x.lack(), 9);
        x.arc(3, 1, 2);
        Check.due("lack() with an arc inside the set", x.lack(), 9);
        x.arc(3, 4, 2);
        Check.due("lack() with a way on", x.lack(), 9);
        x.arc(3, 2, 2);
        Check.due("lack() with a way back", x.lack(), 7);
    }

    // Promise 8

    private static void lackingSetAnswers() {
        CirculationRange x = new CirculationRange();
        x.arc(0, 1, 4);
        Check.due("lackingSet() of lack 0", x.lackingSet(), 0);
        x.bounds(0, 4, 4);
        Check.due("lackingSet() of {1}, with which 2 to 5 lack as much", x.lackingSet(), 2);
        x.arc(1, 5, 4);
        Check.due("lackingSet() of {1, 5}", x.lackingSet(), 34);
        x.bounds(1, 0, 0);
        Check.due("lackingSet() of {1} and of {1, 5}", x.lackingSet(), 2);
        x.bounds(1, 4, 4);
        Check.due("lackingSet() of {5} and of {1, 5}", x.lackingSet(), 32);

        CirculationRange many = new CirculationRange();
        for (int v = 1; v < 6; v++) {
            many.arc(0, v, 1);
            many.bounds(v - 1, 1, 1);
        }
        Check.due("lackingSet() of all but 0", many.lackingSet(), 62);
        for (int arc = 0; arc < 5; arc++) {
            many.reverse(arc);
        }
        Check.due("lackingSet() of 0", many.lackingSet(), 1);
    }

    // Promises 9 and 10

    private static void leastAndMostAnswers() {
        CirculationRange x = Networks.ring();
        int[] least = {0, 2, 2, 1};
        int[] most = {5, 6, 6, 3};
        for (int arc = 0; arc < 4; arc++) {
            Check.due("least(" + arc + ") in the ring", x.least(arc), least[arc]);
            Check.due("most(" + arc + ") in the ring", x.most(arc), most[arc]);
        }
        x.bounds(2, 6, 9);
        Check.due("least(0) where arc 3 cannot carry all", x.least(0), 3);
        Check.due("least(3) where arc 0 cannot carry all", x.least(3), 1);
        x.bounds(2, 0, 2);
        Check.due("most(0) where arc 3 must carry 1", x.most(0), 1);
        Check.due("most(3) where arc 0 may carry none", x.most(3), 2);

        CirculationRange twoRings = new CirculationRange();
        twoRings.arc(0, 1, 20);
        twoRings.arc(1, 0, 20);
        twoRings.arc(4, 5, 8);
        twoRings.arc(5, 4, 6);
        twoRings.bounds(2, 5, 8);
        Check.due("most(0) of a ring alone", twoRings.most(0), 20);
        Check.due("least(0) of a ring alone", twoRings.least(0), 0);
        Check.due("least(3) of the other ring", twoRings.least(3), 5);
        Check.due("most(2) of the other ring", twoRings.most(2), 6);
    }

    // Promise 11

    private static void throughAnswers() {
        CirculationRange x = new CirculationRange();
        x.arc(0, 1, 5);
        x.arc(1, 2, 3);
        x.arc(0, 2, 4);
        Check.due("through(0, 2) by two ways", x.through(0, 2), 7);
        Check.due("through(0, 1)", x.through(0, 1), 5);
        Check.due("through(2, 0) against the arcs", x.through(2, 0), 0);
        Check.due("through(0, 5), no way", x.through(0, 5), 0);

        CirculationRange back = Networks.ring();
        Check.due("through(0, 1): 8 less the 2 that must go round", back.through(0, 1), 6);
        Check.due("through(1, 0): arc 1 carries 6, 1 must go round", back.through(1, 0), 5);
    }

    private static void throughWithoutCirculation() {
        CirculationRange x = new CirculationRange();
        x.arc(0, 1, 6);
        x.bounds(0, 2, 6);
        Check.due("possible() before", x.possible(), false);
        Check.due("through(0, 1): the arc back makes it possible", x.through(0, 1), 6);
        Check.due("through(1, 0): only below 0", x.through(1, 0), -5);
        Check.due("through(0, 2): does not help 1", x.through(0, 2), -5);
        Check.due("through(2, 1)", x.through(2, 1), -5);
        Check.due("through(2, 3): two other vertices", x.through(2, 3), -5);
        x.arc(1, 2, 1);
        Check.due("through(0, 2): 1 gets rid of too little", x.through(0, 2), -5);
        x.bounds(1, 0, 2);
        Check.due("through(0, 2): just enough", x.through(0, 2), 2);
        Check.due("possible() after", x.possible(), false);
        x.arc(3, 4, 20);
        Check.due("through(3, 4): more than is lacking, but elsewhere", x.through(3, 4), -5);

        CirculationRange zero = new CirculationRange();
        zero.arc(0, 1, 4);
        zero.arc(1, 0, 4);
        zero.bounds(0, 4, 4);
        Check.due("through(1, 0): all of it must go round", zero.through(1, 0), 0);
        Check.due("through(0, 1): none of it need", zero.through(0, 1), 4);
    }
}

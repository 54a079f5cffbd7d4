import java.util.ArrayList;
import java.util.List;
import java.util.function.Supplier;
import java.util.function.ToIntFunction;

/**
 * The boundary cases of the calls that only ask: one method for each sentence of the document that names one,
 * in the document's order.
 */
public final class QuestionBoundaryTest {
    /** 32 and 64 are 0 again where only the last bits of a number are looked at. */
    private static final int[] NO_VERTICES = {-1, 6, 7, 32, 64, -32, Integer.MIN_VALUE, Integer.MAX_VALUE};
    private static final int[] NO_ARCS_OF_RING = {-1, 4, 5, 11, 12, 32, Integer.MIN_VALUE, Integer.MAX_VALUE};

    public static void main(String[] args) {
        Check.each(
                QuestionBoundaryTest::questionsUpTo512,
                QuestionBoundaryTest::questionsChangeNothing,
                QuestionBoundaryTest::possibleWithoutArcs,
                QuestionBoundaryTest::possibleJust,
                QuestionBoundaryTest::lackOfEverySet,
                QuestionBoundaryTest::lackOfTheEmptySet,
                QuestionBoundaryTest::lackAtItsGreatest,
                QuestionBoundaryTest::lackIsZeroExactlyIfPossible,
                QuestionBoundaryTest::lackOfArcsInsideOrOutside,
                QuestionBoundaryTest::lackingSetIsTheSmallest,
                QuestionBoundaryTest::lackingSetOfNone,
                QuestionBoundaryTest::lackingSetInEverySet,
                QuestionBoundaryTest::lackingSetLacksItself,
                QuestionBoundaryTest::leastOfAnyCirculation,
                QuestionBoundaryTest::leastOfNoArc,
                QuestionBoundaryTest::leastOfNone,
                QuestionBoundaryTest::mostOfAnyCirculation,
                QuestionBoundaryTest::mostOfNoArc,
                QuestionBoundaryTest::mostOfNone,
                QuestionBoundaryTest::throughAtItsGreatest,
                QuestionBoundaryTest::throughInAddition,
                QuestionBoundaryTest::throughFromNoVertex,
                QuestionBoundaryTest::throughToNoVertex,
                QuestionBoundaryTest::throughToItself,
                QuestionBoundaryTest::throughOfNone,
                QuestionBoundaryTest::throughOfZero,
                QuestionBoundaryTest::throughOfTooMuch,
                QuestionBoundaryTest::arcsFromNoneToTwelve,
                QuestionBoundaryTest::orderOfLeastAndMostRefusals,
                QuestionBoundaryTest::orderOfThroughRefusals);
        Check.end();
    }

    // What it is

    private static void questionsUpTo512() {
        Check.sentence("What it is: An object is used for at most 512 calls");
        CirculationRange x = Networks.ring();
        // Six calls went into making it, and 8 times 58 follow.
        String first = Answers.of(x);
        for (int i = 1; i < 8; i++) {
            Check.due("all answers, time " + i, Answers.of(x), first);
        }
        for (int call = 471; call <= 512; call++) {
            Check.due("call " + call + ", through(0, 1)", x.through(0, 1), 6);
        }
    }

    // Terms

    private static void questionsChangeNothing() {
        Check.sentence("Terms: The calls below change nothing");
        List<Supplier<CirculationRange>> networks = List.of(CirculationRange::new, Networks::ring,
                Networks::twelveArcs, Networks::lacking, Networks::twelveLackingArcs);
        for (Supplier<CirculationRange> made : networks) {
            for (ToIntFunction<CirculationRange> question : questions()) {
                Unchanged.due("a question", made, question, question.applyAsInt(made.get()));
            }
        }
    }

    private static List<ToIntFunction<CirculationRange>> questions() {
        List<ToIntFunction<CirculationRange>> all = new ArrayList<>();
        all.add(x -> x.possible() ? 1 : 0);
        all.add(CirculationRange::lack);
        all.add(CirculationRange::lackingSet);
        all.add(CirculationRange::arcs);
        for (int arc : new int[] {-1, 0, 3, 4, 11, 12}) {
            all.add(x -> x.least(arc));
            all.add(x -> x.most(arc));
        }
        for (int[] pair : new int[][] {{0, 1}, {1, 0}, {5, 0}, {0, 5}, {6, 0}, {0, -1}, {3, 3}}) {
            all.add(x -> x.through(pair[0], pair[1]));
        }
        return all;
    }

    // Promise 6

    private static void possibleWithoutArcs() {
        Check.sentence("6: (Without arcs there is one.)");
        Check.due("possible() of a new object", new CirculationRange().possible(), true);
        CirculationRange x = Networks.lacking();
        Check.due("possible() with an arc", x.possible(), false);
        x.dropLast();
        Check.due("possible() after the only arc is out", x.possible(), true);
    }

    private static void possibleJust() {
        Check.sentence("6: Whether there is a circulation");
        for (int back = 0; back <= 20; back++) {
            CirculationRange x = Networks.thereAndBack(10, 12, 0, back);
            Check.due("possible() with " + back + " back at the most", x.possible(), back >= 10);
            CirculationRange y = Networks.thereAndBack(10, 12, back, 20);
            Check.due("possible() with " + back + " back at the least", y.possible(), back <= 12);
        }
        Check.due("possible() of a dead end with 0", Networks.oneArc(0, 1, 0, 20).possible(), true);
        Check.due("possible() of a dead end with 1", Networks.oneArc(0, 1, 1, 20).possible(), false);
    }

    // Promise 7

    /** Every arc must carry 1 into the set, and every vertex has an arc, so no other set lacks as much. */
    private static CirculationRange onlyLacking(int set) {
        CirculationRange x = new CirculationRange();
        int inside = Integer.numberOfTrailingZeros(set);
        int outside = Integer.numberOfTrailingZeros(~set);
        for (int v = 0; v < 6; v++) {
            boolean in = (set >> v & 1) == 1;
            int arc = in ? x.arc(outside, v, 1) : x.arc(v, inside, 1);
            x.bounds(arc, 1, 1);
        }
        return x;
    }

    private static void lackOfEverySet() {
        Check.sentence("7: The greatest lack of all 64 sets");
        for (int set = 1; set < 63; set++) {
            CirculationRange x = onlyLacking(set);
            Check.due("lack() of the set " + set, x.lack(), 6);
            Check.due("lackingSet() of the set " + set, x.lackingSet(), set);
            Check.due("possible() with the set " + set, x.possible(), false);
        }
    }

    private static void lackOfTheEmptySet() {
        Check.sentence("7: (the empty set has lack 0)");
        Check.due("lack() where all but the empty and the full set lack less", Networks.wideRing().lack(), 0);
        Check.due("lack() without arcs", new CirculationRange().lack(), 0);
        Check.due("lack() of arcs that carry nothing", Networks.oneArc(0, 1, 0, 0).lack(), 0);
    }

    private static void lackAtItsGreatest() {
        Check.sentence("7: the sum of the least amounts of all arcs that go from outside S into S");
        CirculationRange x = new CirculationRange();
        for (int i = 0; i < 12; i++) {
            int from = i < 6 ? 0 : 5;
            x.arc(from, 1 + i % 4, 20);
            x.bounds(i, 20, 20);
            Check.due("lack() of " + (i + 1) + " arcs", x.lack(), 20 * (i + 1));
        }
        Check.due("lackingSet()", x.lackingSet(), 30);
        CirculationRange least = Networks.oneArc(0, 1, 0, 20);
        Check.due("lack() of greatest amounts into it", least.lack(), 0);
        least.bounds(0, 1, 20);
        Check.due("lack() of a least amount of 1", least.lack(), 1);
    }

    private static void lackIsZeroExactlyIfPossible() {
        Check.sentence("7: There is a circulation exactly if it is 0");
        for (int back = 0; back <= 20; back++) {
            CirculationRange x = Networks.thereAndBack(10, 10, 0, back);
            int lack = Math.max(0, 10 - back);
            Check.due("lack() with " + back + " back", x.lack(), lack);
            Check.due("possible() with " + back + " back", x.possible(), lack == 0);
        }
    }

    private static void lackOfArcsInsideOrOutside() {
        Check.sentence("7: less the sum of the greatest amounts of all arcs that go from S to outside");
        CirculationRange x = Networks.oneArc(0, 1, 9, 9);
        x.arc(1, 2, 5);
        Check.due("lack() of {1, 2}: the arc inside counts for nothing", x.lack(), 9);
        x.arc(2, 0, 4);
        Check.due("lack() with 4 out at the most", x.lack(), 5);
        x.bounds(2, 4, 4);
        Check.due("lack() with just 4 out", x.lack(), 5);
        x.arc(3, 4, 20);
        x.arc(4, 3, 20);
        x.bounds(3, 20, 20);
        Check.due("lack() with arcs outside", x.lack(), 5);
    }

    // Promise 8

    private static void lackingSetIsTheSmallest() {
        Check.sentence("8: The smallest set with that greatest lack, as a mask (bit v for vertex v)");
        for (int v = 0; v < 6; v++) {
            CirculationRange x = Networks.oneArc((v + 1) % 6, v, 1, 1);
            Check.due("lackingSet() of {" + v + "}, beside fifteen larger ones", x.lackingSet(), 1 << v);
        }
        CirculationRange all = new CirculationRange();
        for (int v = 0; v < 5; v++) {
            all.arc(5, v, 1);
            all.bounds(v, 1, 1);
        }
        Check.due("lackingSet() of all but 5", all.lackingSet(), 31);
    }

    private static void lackingSetOfNone() {
        Check.sentence("8: The smallest set with that greatest lack (a lack of 0)");
        Check.due("lackingSet() without arcs", new CirculationRange().lackingSet(), 0);
        Check.due("lackingSet() of the ring", Networks.ring().lackingSet(), 0);
        Check.due("lackingSet() of the empty and the full set", Networks.wideRing().lackingSet(), 0);
        CirculationRange tight = Networks.thereAndBack(20, 20, 20, 20);
        Check.due("lackingSet() where {0} and {1} have lack 0 too", tight.lackingSet(), 0);
    }

    private static void lackingSetInEverySet() {
        Check.sentence("8: the set of all vertices that lie in every set whose lack is the greatest");
        CirculationRange x = Networks.oneArc(0, 1, 4, 4);
        x.arc(1, 2, 4);
        Check.due("lackingSet() where 4 may go on to 2", x.lackingSet(), 6);
        x.bounds(1, 4, 4);
        Check.due("lackingSet() where 4 must go on to 2", x.lackingSet(), 4);
        x.bounds(1, 0, 0);
        Check.due("lackingSet() where nothing goes on to 2", x.lackingSet(), 2);
        x.bounds(1, 1, 1);
        Check.due("lackingSet() where just 1 goes on to 2", x.lackingSet(), 6);
    }

    private static void lackingSetLacksItself() {
        Check.sentence("8: (It has that lack itself.)");
        Numbers numbers = new Numbers(8);
        for (int i = 0; i < 2000; i++) {
            CirculationRange x = new CirculationRange();
            Model model = new Model();
            for (int arc = 0; arc < 12; arc++) {
                int from = numbers.below(6);
                int to = (from + numbers.between(1, 5)) % 6;
                int least = numbers.below(4);
                int most = numbers.between(least, 4);
                x.arc(from, to, most);
                x.bounds(arc, least, most);
                model.arc(from, to, most);
                model.bounds(arc, least, most);
                Check.due("the lack of lackingSet()", model.lackOf(x.lackingSet()), x.lack());
            }
        }
    }

    // Promise 9

    private static void leastOfAnyCirculation() {
        Check.sentence("9: The least amount that the arc has in any circulation");
        for (int least = 0; least <= 20; least++) {
            Check.due("its own least", Networks.thereAndBack(least, 20, 0, 20).least(0), least);
            Check.due("the other arc's least", Networks.thereAndBack(0, 20, least, 20).least(0), least);
            Check.due("its greatest, where it can have no other",
                    Networks.thereAndBack(0, least, least, 20).least(0), least);
        }
        CirculationRange beside = Networks.thereAndBack(0, 20, 20, 20);
        beside.arc(0, 1, 20);
        Check.due("0, where another can carry all", beside.least(0), 0);
        beside.bounds(2, 0, 19);
        Check.due("1, where another can carry all but 1", beside.least(0), 1);
        Check.due("0, where it cannot carry anything", Networks.oneArc(0, 1, 0, 20).least(0), 0);
    }

    private static void leastOfNoArc() {
        Check.sentence("9: NO_ARC");
        for (int bad : NO_ARCS_OF_RING) {
            Check.due("least(" + bad + ") of four", Networks.ring().least(bad), -4);
        }
        Check.due("least(0) of none", new CirculationRange().least(0), -4);
        Check.due("least(11) of twelve", Networks.twelveArcs().least(11), 0);
        Check.due("least(12) of twelve", Networks.twelveArcs().least(12), -4);
        CirculationRange dropped = Networks.ring();
        dropped.dropLast();
        Check.due("least(3) of a dropped arc", dropped.least(3), -4);
    }

    private static void leastOfNone() {
        Check.sentence("9: NONE if there is no circulation");
        Check.due("least(0) of a dead end", Networks.lacking().least(0), -5);
        Check.due("least(0) where 1 is lacking", Networks.thereAndBack(10, 10, 0, 9).least(0), -5);
        Check.due("least(0) where 0 is lacking", Networks.thereAndBack(10, 10, 0, 10).least(0), 10);
        CirculationRange elsewhere = withDeadEndElsewhere();
        for (int arc = 0; arc < 5; arc++) {
            Check.due("least(" + arc + ") with a lack elsewhere", elsewhere.least(arc), -5);
        }
    }

    private static CirculationRange withDeadEndElsewhere() {
        CirculationRange x = Networks.ring();
        x.arc(3, 4, 1);
        x.bounds(4, 1, 1);
        return x;
    }

    // Promise 10

    private static void mostOfAnyCirculation() {
        Check.sentence("10: The greatest amount that the arc has in any circulation");
        for (int most = 0; most <= 20; most++) {
            Check.due("its own greatest", Networks.thereAndBack(0, most, 0, 20).most(0), most);
            Check.due("the other arc's greatest", Networks.thereAndBack(0, 20, 0, most).most(0), most);
            Check.due("its least, where it can have no other",
                    Networks.thereAndBack(most, 20, 0, most).most(0), most);
        }
        CirculationRange beside = Networks.thereAndBack(0, 20, 0, 20);
        beside.arc(0, 1, 20);
        Check.due("20, where another may carry nothing", beside.most(0), 20);
        beside.bounds(2, 1, 20);
        Check.due("19, where another must carry 1", beside.most(0), 19);
        Check.due("0, where nothing can go on", Networks.oneArc(0, 1, 0, 20).most(0), 0);
    }

    private static void mostOfNoArc() {
        Check.sentence("10: NO_ARC");
        for (int bad : NO_ARCS_OF_RING) {
            Check.due("most(" + bad + ") of four", Networks.ring().most(bad), -4);
        }
        Check.due("most(0) of none", new CirculationRange().most(0), -4);
        Check.due("most(11) of twelve", Networks.twelveArcs().most(11), 9);
        Check.due("most(12) of twelve", Networks.twelveArcs().most(12), -4);
        CirculationRange dropped = Networks.ring();
        dropped.dropLast();
        Check.due("most(3) of a dropped arc", dropped.most(3), -4);
    }

    private static void mostOfNone() {
        Check.sentence("10: NONE if there is no circulation");
        Check.due("most(0) of a dead end", Networks.lacking().most(0), -5);
        Check.due("most(0) where 1 is lacking", Networks.thereAndBack(10, 10, 0, 9).most(0), -5);
        Check.due("most(0) where 0 is lacking", Networks.thereAndBack(10, 10, 0, 10).most(0), 10);
        CirculationRange elsewhere = withDeadEndElsewhere();
        for (int arc = 0; arc < 5; arc++) {
            Check.due("most(" + arc + ") with a lack elsewhere", elsewhere.most(arc), -5);
        }
    }

    // Promise 11

    private static void throughAtItsGreatest() {
        Check.sentence("11: the greatest x such that there is a circulation");
        CirculationRange x = new CirculationRange();
        for (int i = 1; i <= 12; i++) {
            x.arc(4, 3, 20);
            Check.due("through(4, 3) by " + i + " arcs", x.through(4, 3), 20 * i);
            Check.due("through(3, 4) against " + i + " arcs", x.through(3, 4), 0);
        }
        for (int least = 0; least <= 20; least++) {
            CirculationRange one = Networks.oneArc(0, 1, least, 20);
            Check.due("through(0, 1) where x is at least " + least, one.through(0, 1), 20);
            CirculationRange only = Networks.oneArc(0, 1, least, least);
            Check.due("through(0, 1) where x is just " + least, only.through(0, 1), least);
        }
        Check.due("through(5, 0) where the last arc ends the way", Networks.twelveArcs().through(5, 0), 24);
    }

    private static void throughInAddition() {
        Check.sentence("11: sent in addition from vertex s to vertex t in some circulation");
        for (int round = 0; round <= 20; round++) {
            CirculationRange x = Networks.thereAndBack(0, 20, round, round);
            Check.due("through(0, 1) beside " + round + " that must go round", x.through(0, 1), 20 - round);
            CirculationRange y = Networks.thereAndBack(0, 20, 0, round);
            Check.due("through(0, 1) beside " + round + " that need not", y.through(0, 1), 20);
        }
    }

    private static void throughFromNoVertex() {
        Check.sentence("11: s not in 0 to 5: BAD_VERTEX");
        for (int bad : NO_VERTICES) {
            Check.due("through(" + bad + ", 1)", Networks.ring().through(bad, 1), -1);
            Check.due("through(" + bad + ", 0) without arcs", new CirculationRange().through(bad, 0), -1);
        }
    }

    private static void throughToNoVertex() {
        Check.sentence("11: t not in 0 to 5: BAD_VERTEX");
        for (int bad : NO_VERTICES) {
            Check.due("through(1, " + bad + ")", Networks.ring().through(1, bad), -1);
            Check.due("through(0, " + bad + ") without arcs", new CirculationRange().through(0, bad), -1);
            Check.due("through(" + bad + ", " + bad + ")", Networks.ring().through(bad, bad), -1);
        }
    }

    private static void throughToItself() {
        Check.sentence("11: s == t: BAD_VERTEX");
        for (int v = 0; v < 6; v++) {
            Check.due("through(" + v + ", " + v + ")", Networks.ring().through(v, v), -1);
            Check.due("the same without arcs", new CirculationRange().through(v, v), -1);
        }
    }

    private static void throughOfNone() {
        Check.sentence("11: NONE if there is no such x of at least 0");
        for (int least = 1; least <= 20; least++) {
            CirculationRange x = Networks.oneArc(0, 1, least, 20);
            Check.due("through(1, 0) where x is " + -least + " at the most", x.through(1, 0), -5);
            Check.due("through(2, 3) with a lack elsewhere", x.through(2, 3), -5);
            Check.due("through(0, 2) with a lack at 1", x.through(0, 2), -5);
            Check.due("through(2, 1) with too much at 0", x.through(2, 1), -5);
        }
        CirculationRange small = Networks.oneArc(0, 1, 2, 2);
        small.arc(1, 2, 1);
        Check.due("through(0, 2) where x is 1 at the most and 2 at the least", small.through(0, 2), -5);
        small.bounds(1, 0, 2);
        Check.due("through(0, 2) where x is 2 at the most and at the least", small.through(0, 2), 2);
    }

    private static void throughOfZero() {
        Check.sentence("11: no such x of at least 0 (just 0)");
        Check.due("through(0, 5) without arcs", new CirculationRange().through(0, 5), 0);
        Check.due("through(1, 0) against the arc", Networks.oneArc(0, 1, 0, 20).through(1, 0), 0);
        for (int amount = 0; amount <= 20; amount++) {
            CirculationRange x = Networks.thereAndBack(amount, amount, amount, amount);
            Check.due("through(0, 1) where all must go round", x.through(0, 1), 0);
            Check.due("through(1, 0) where all must go round", x.through(1, 0), 0);
        }
    }

    private static void throughOfTooMuch() {
        Check.sentence("11: NONE if there is no such x of at least 0 (a lack elsewhere)");
        CirculationRange x = Networks.lacking();
        x.arc(3, 4, 20);
        Check.due("through(3, 4) with a lack elsewhere", x.through(3, 4), -5);
        Check.due("through(0, 1), which mends it", x.through(0, 1), 5);
        x.bounds(0, 0, 5);
        Check.due("through(3, 4) without the lack", x.through(3, 4), 20);
    }

    // Promise 12

    private static void arcsFromNoneToTwelve() {
        Check.sentence("12: How many arcs there are");
        CirculationRange x = new CirculationRange();
        Check.due("arcs() of none", x.arcs(), 0);
        for (int i = 1; i <= 12; i++) {
            x.arc(0, 1, 1);
            x.arc(0, 0, 1);
            x.arc(0, 1, 21);
            Check.due("arcs() after " + i + ", with refused ones between", x.arcs(), i);
        }
        x.arc(0, 1, 1);
        x.bounds(11, 1, 1);
        x.reverse(11);
        Check.due("arcs() of twelve", x.arcs(), 12);
        for (int left = 11; left >= 0; left--) {
            x.dropLast();
            Check.due("arcs() after a dropLast()", x.arcs(), left);
        }
        x.dropLast();
        Check.due("arcs() after a refused dropLast()", x.arcs(), 0);
    }

    // Promise 13

    private static void orderOfLeastAndMostRefusals() {
        Check.sentence("13: least and most: the refusals are tested in the order in which they are named there");
        for (int bad : new int[] {-1, 1, 12, Integer.MIN_VALUE, Integer.MAX_VALUE}) {
            Check.due("least(" + bad + ") without a circulation", Networks.lacking().least(bad), -4);
            Check.due("most(" + bad + ") without a circulation", Networks.lacking().most(bad), -4);
        }
    }

    private static void orderOfThroughRefusals() {
        Check.sentence("13: through: the refusals are tested in the order in which they are named there");
        for (int bad : NO_VERTICES) {
            Check.due("through(" + bad + ", 2) with a lack", Networks.lacking().through(bad, 2), -1);
            Check.due("through(2, " + bad + ") with a lack", Networks.lacking().through(2, bad), -1);
        }
        for (int v = 0; v < 6; v++) {
            Check.due("through(" + v + ", " + v + ") with a lack", Networks.lacking().through(v, v), -1);
        }
    }
}

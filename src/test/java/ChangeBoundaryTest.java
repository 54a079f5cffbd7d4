import java.util.function.Supplier;

/**
 * The boundary cases of the calls that change a network, and of what the document says before its promises:
 * one method for each sentence that names one, in the document's order.
 */
public final class ChangeBoundaryTest {
    /** 32 and 64 are 0 again where only the last bits of a number are looked at. */
    private static final int[] NO_VERTICES = {-1, 6, 7, 32, 64, -32, Integer.MIN_VALUE, Integer.MAX_VALUE};
    private static final int[] TOO_SMALL = {-1, -2, -20, Integer.MIN_VALUE};
    private static final int[] TOO_LARGE = {21, 22, 256, Integer.MAX_VALUE};

    public static void main(String[] args) {
        Check.each(
                ChangeBoundaryTest::sixVertices,
                ChangeBoundaryTest::twelveArcsAtMost,
                ChangeBoundaryTest::callsWithArcsUpTo512,
                ChangeBoundaryTest::callsOnOneArcUpTo512,
                ChangeBoundaryTest::anotherVertex,
                ChangeBoundaryTest::orderOfAmounts,
                ChangeBoundaryTest::betweenLeastAndGreatest,
                ChangeBoundaryTest::asMuchInAsOut,
                ChangeBoundaryTest::numberedFromZero,
                ChangeBoundaryTest::severalArcs,
                ChangeBoundaryTest::newObject,
                ChangeBoundaryTest::newObjectsAreApart,
                ChangeBoundaryTest::arcCarriesFromZero,
                ChangeBoundaryTest::arcFromNoVertex,
                ChangeBoundaryTest::arcToNoVertex,
                ChangeBoundaryTest::arcToItself,
                ChangeBoundaryTest::arcTooSmall,
                ChangeBoundaryTest::arcTooLarge,
                ChangeBoundaryTest::arcWhenFull,
                ChangeBoundaryTest::arcAnswersItsNumber,
                ChangeBoundaryTest::boundsSetsBoth,
                ChangeBoundaryTest::boundsOfNoArc,
                ChangeBoundaryTest::boundsLeastTooSmall,
                ChangeBoundaryTest::boundsLeastAboveMost,
                ChangeBoundaryTest::boundsMostTooLarge,
                ChangeBoundaryTest::boundsAtTheLimits,
                ChangeBoundaryTest::boundsAnswersZero,
                ChangeBoundaryTest::reverseKeepsAmounts,
                ChangeBoundaryTest::reverseOfNoArc,
                ChangeBoundaryTest::reverseAnswersZero,
                ChangeBoundaryTest::dropLastTakesTheGreatestNumber,
                ChangeBoundaryTest::dropLastOfNone,
                ChangeBoundaryTest::dropLastAnswersWhatIsLeft,
                ChangeBoundaryTest::orderOfArcRefusals,
                ChangeBoundaryTest::orderOfBoundsRefusals);
        Check.end();
    }

    // What it is

    private static void sixVertices() {
        Check.sentence("What it is: six VERTICES (0 to 5)");
        for (int from = 0; from < 6; from++) {
            for (int to = 0; to < 6; to++) {
                if (from != to) {
                    oneOfSixVertices(from, to);
                }
            }
        }
    }

    private static void oneOfSixVertices(int from, int to) {
        CirculationRange x = new CirculationRange();
        String call = "arc(" + from + ", " + to + ", 9)";
        Check.due(call, x.arc(from, to, 9), 0);
        Check.due("through(" + from + ", " + to + ") after " + call, x.through(from, to), 9);
        x.bounds(0, 2, 9);
        Check.due("lackingSet() after " + call, x.lackingSet(), 1 << to);
    }

    private static void twelveArcsAtMost() {
        Check.sentence("What it is: at most twelve ARCS");
        CirculationRange x = new CirculationRange();
        for (int i = 0; i < 12; i++) {
            Check.due("arc " + i, x.arc(0, 1, 1), i);
        }
        Check.due("arcs()", x.arcs(), 12);
        Check.due("through(0, 1) by all of them", x.through(0, 1), 12);
        for (int i = 0; i < 50; i++) {
            Check.due("one more arc", x.arc(0, 1, 1), -3);
        }
        Check.due("arcs() still", x.arcs(), 12);
        Check.due("through(0, 1) still", x.through(0, 1), 12);
    }

    private static void callsWithArcsUpTo512() {
        Check.sentence("What it is: An object is used for at most 512 calls");
        CirculationRange x = new CirculationRange();
        for (int call = 1; call <= 512; call++) {
            int step = (call - 1) % 26;
            if (step < 13) {
                Check.due("call " + call + ", arc", x.arc(2, 3, 1), step < 12 ? step : -3);
            } else {
                Check.due("call " + call + ", dropLast()", x.dropLast(), step < 25 ? 24 - step : -4);
            }
        }
    }

    private static void callsOnOneArcUpTo512() {
        Check.sentence("What it is: An object is used for at most 512 calls");
        CirculationRange x = Networks.oneArc(0, 1, 0, 20);
        // Two calls went into making it.
        for (int round = 0; round < 102; round++) {
            int least = round % 21;
            int end = round % 2 == 0 ? 0 : 1;
            Check.due("bounds in round " + round, x.bounds(0, least, 20), 0);
            Check.due("reverse in round " + round, x.reverse(0), 0);
            Check.due("lack() in round " + round, x.lack(), least);
            Check.due("lackingSet() in round " + round, x.lackingSet(), least == 0 ? 0 : 1 << end);
            Check.due("through in round " + round, x.through(1 - end, end), 20);
        }
    }

    // Terms

    private static void anotherVertex() {
        Check.sentence("Terms: An arc goes from one vertex to another one");
        for (int v = 0; v < 6; v++) {
            CirculationRange x = new CirculationRange();
            Check.due("arc from " + v + " to itself", x.arc(v, v, 1), -1);
            Check.due("arcs()", x.arcs(), 0);
        }
    }

    private static void orderOfAmounts() {
        Check.sentence("Terms: 0 <= least <= greatest <= 20");
        for (int least = -2; least <= 22; least++) {
            for (int most = -2; most <= 22; most++) {
                boolean right = 0 <= least && least <= most && most <= 20;
                CirculationRange x = Networks.thereAndBack(0, 20, 0, 20);
                String call = "bounds(0, " + least + ", " + most + ")";
                Check.due(call, x.bounds(0, least, most), right ? 0 : -2);
                Check.due("least(1) after " + call, x.least(1), right ? least : 0);
                Check.due("most(1) after " + call, x.most(1), right ? most : 20);
            }
        }
    }

    private static void betweenLeastAndGreatest() {
        Check.sentence("Terms: a whole amount between its least and its greatest");
        CirculationRange meet = Networks.thereAndBack(3, 5, 5, 7);
        Check.due("possible() where the ranges share one end", meet.possible(), true);
        Check.due("least(0)", meet.least(0), 5);
        Check.due("most(1)", meet.most(1), 5);
        CirculationRange apart = Networks.thereAndBack(3, 4, 5, 7);
        Check.due("possible() where the ranges are one apart", apart.possible(), false);
        CirculationRange same = Networks.thereAndBack(0, 20, 0, 20);
        Check.due("least(0) is the least itself", same.least(0), 0);
        Check.due("most(0) is the greatest itself", same.most(0), 20);
        CirculationRange one = Networks.thereAndBack(20, 20, 0, 20);
        Check.due("least(1) against a single amount", one.least(1), 20);
    }

    private static void asMuchInAsOut() {
        Check.sentence("Terms: at every vertex as much flows in as out");
        for (int v = 0; v < 6; v++) {
            CirculationRange x = roundAllVertices();
            Check.due("possible() with 4 everywhere", x.possible(), true);
            x.bounds(v, 5, 5);
            Check.due("possible() with 5 out of " + v, x.possible(), false);
            x.bounds(v, 3, 3);
            Check.due("possible() with 3 out of " + v, x.possible(), false);
            x.bounds(v, 4, 4);
            x.reverse(v);
            Check.due("possible() with the arc out of " + v + " turned", x.possible(), false);
        }
    }

    private static CirculationRange roundAllVertices() {
        CirculationRange x = new CirculationRange();
        for (int v = 0; v < 6; v++) {
            x.arc(v, (v + 1) % 6, 4);
            x.bounds(v, 4, 4);
        }
        return x;
    }

    private static void numberedFromZero() {
        Check.sentence("Terms: numbered from 0 in the order in which they were added");
        Supplier<CirculationRange> made = () -> {
            CirculationRange x = new CirculationRange();
            x.arc(5, 0, 20);
            x.arc(0, 5, 0);
            x.arc(3, 4, 1);
            return x;
        };
        Check.due("three arcs", ArcList.of(made), "5>0 0..20, 0>5 0..0, 3>4 0..1");
        StringBuilder twelve = new StringBuilder("0>1 0..20");
        for (int i = 1; i < 12; i++) {
            twelve.append(", ").append(i % 6).append('>').append((i + 1) % 6).append(" 0..").append(20 - i);
        }
        Check.due("twelve arcs", ArcList.of(Networks::twelveArcs), twelve.toString());
    }

    private static void severalArcs() {
        Check.sentence("Terms: several arcs may join the same two vertices");
        Supplier<CirculationRange> made = () -> {
            CirculationRange x = new CirculationRange();
            x.arc(1, 4, 6);
            x.arc(1, 4, 6);
            x.arc(4, 1, 9);
            x.bounds(0, 2, 6);
            return x;
        };
        Check.due("the arcs", ArcList.of(made), "1>4 2..6, 1>4 0..6, 4>1 0..9");
        Check.due("through(1, 4): both of them", made.get().through(1, 4), 12);
        Check.due("most(2): both of them", made.get().most(2), 9);
        CirculationRange all = new CirculationRange();
        for (int i = 0; i < 12; i++) {
            Check.due("arc(1, 4, 20)", all.arc(1, 4, 20), i);
        }
        Check.due("through(1, 4) by twelve", all.through(1, 4), 240);
    }

    // Promise 1

    private static void newObject() {
        Check.sentence("1: No arcs");
        Supplier<CirculationRange> made = CirculationRange::new;
        Check.due("the arcs", ArcList.of(made), "");
        Check.due("arcs()", made.get().arcs(), 0);
        Check.due("possible()", made.get().possible(), true);
        Check.due("lack()", made.get().lack(), 0);
        Check.due("lackingSet()", made.get().lackingSet(), 0);
        Check.due("dropLast()", made.get().dropLast(), -4);
        Check.due("the first arc", made.get().arc(0, 1, 1), 0);
        Check.due("reverse(0)", made.get().reverse(0), -4);
        Check.due("bounds(0, 0, 0)", made.get().bounds(0, 0, 0), -4);
        for (int s = 0; s < 6; s++) {
            for (int t = 0; t < 6; t++) {
                Check.due("through(" + s + ", " + t + ")", made.get().through(s, t), s == t ? -1 : 0);
            }
        }
    }

    private static void newObjectsAreApart() {
        Check.sentence("1: No arcs (whatever other objects hold)");
        CirculationRange old = Networks.ring();
        String before = Answers.of(old);
        CirculationRange x = new CirculationRange();
        Check.due("arcs() of the new object", x.arcs(), 0);
        x.arc(4, 3, 2);
        x.bounds(0, 1, 2);
        Check.due("all answers of the old object", Answers.of(old), before);
    }

    // Promise 2

    private static void arcCarriesFromZero() {
        Check.sentence("2: Adds an arc that carries from 0 to 'most'");
        for (int most = 0; most <= 20; most++) {
            int carried = most;
            Check.due("the arc", ArcList.of(() -> with(new CirculationRange(), carried)), "2>3 0.." + most);
        }
        Check.due("an arc in a dropped one's place", ArcList.of(() -> {
            CirculationRange x = Networks.oneArc(0, 1, 4, 9);
            x.dropLast();
            return with(x, 6);
        }), "2>3 0..6");
        Check.due("an arc behind others", ArcList.of(() -> with(Networks.ring(), 6)),
                "0>1 0..5, 1>2 2..6, 2>0 0..9, 0>1 1..3, 2>3 0..6");
    }

    private static CirculationRange with(CirculationRange x, int most) {
        x.arc(2, 3, most);
        return x;
    }

    private static void arcFromNoVertex() {
        Check.sentence("2: from not in 0 to 5: BAD_VERTEX; nothing changes then");
        for (int bad : NO_VERTICES) {
            refusedArc(Networks::ring, bad, 1, 5, -1);
            refusedArc(CirculationRange::new, bad, 0, 5, -1);
        }
    }

    private static void arcToNoVertex() {
        Check.sentence("2: to not in 0 to 5: BAD_VERTEX; nothing changes then");
        for (int bad : NO_VERTICES) {
            refusedArc(Networks::ring, 1, bad, 5, -1);
            refusedArc(CirculationRange::new, 0, bad, 5, -1);
            refusedArc(Networks::ring, bad, bad, 5, -1);
        }
    }

    private static void arcToItself() {
        Check.sentence("2: from == to: BAD_VERTEX; nothing changes then");
        for (int v = 0; v < 6; v++) {
            refusedArc(Networks::ring, v, v, 5, -1);
            refusedArc(CirculationRange::new, v, v, 0, -1);
        }
    }

    private static void arcTooSmall() {
        Check.sentence("2: most not in 0 to 20 (too small): BAD_AMOUNT; nothing changes then");
        for (int bad : TOO_SMALL) {
            refusedArc(Networks::ring, 3, 4, bad, -2);
            refusedArc(CirculationRange::new, 0, 5, bad, -2);
        }
        Check.due("arc(3, 4, 0)", Networks.ring().arc(3, 4, 0), 4);
    }

    private static void arcTooLarge() {
        Check.sentence("2: most not in 0 to 20 (too large): BAD_AMOUNT; nothing changes then");
        for (int bad : TOO_LARGE) {
            refusedArc(Networks::ring, 3, 4, bad, -2);
            refusedArc(CirculationRange::new, 0, 5, bad, -2);
        }
        Check.due("arc(3, 4, 20)", Networks.ring().arc(3, 4, 20), 4);
    }

    private static void arcWhenFull() {
        Check.sentence("2: there are twelve arcs: FULL; nothing changes then");
        refusedArc(Networks::twelveArcs, 3, 4, 5, -3);
        refusedArc(Networks::twelveArcs, 3, 4, 0, -3);
        refusedArc(Networks::twelveLackingArcs, 0, 5, 20, -3);
        CirculationRange x = Networks.twelveArcs();
        x.dropLast();
        Check.due("a twelfth arc again", x.arc(3, 4, 5), 11);
        Check.due("a thirteenth arc again", x.arc(3, 4, 5), -3);
    }

    private static void refusedArc(Supplier<CirculationRange> made, int from, int to, int most, int want) {
        String call = "arc(" + from + ", " + to + ", " + most + ")";
        Unchanged.due(call, made, x -> x.arc(from, to, most), want);
    }

    private static void arcAnswersItsNumber() {
        Check.sentence("2: Else answers its number");
        CirculationRange x = new CirculationRange();
        for (int i = 0; i < 12; i++) {
            Check.due("a refused arc before it", x.arc(6, 0, 1), -1);
            Check.due("arc " + i, x.arc(i % 6, (i + 3) % 6, i), i);
        }
        x.dropLast();
        x.dropLast();
        Check.due("arc 10 after two were dropped", x.arc(0, 1, 1), 10);
        Check.due("arc 11 after two were dropped", x.arc(0, 1, 1), 11);
    }

    // Promise 3

    private static void boundsSetsBoth() {
        Check.sentence("3: Sets both amounts of an arc");
        Check.due("above both old amounts", ArcList.of(() -> bounded(3, 8, 20)),
                "0>1 0..5, 1>2 2..6, 2>0 0..9, 0>1 8..20");
        Check.due("below both old amounts", ArcList.of(() -> bounded(1, 0, 1)),
                "0>1 0..5, 1>2 0..1, 2>0 0..9, 0>1 1..3");
        Check.due("the first arc", ArcList.of(() -> bounded(0, 5, 5)),
                "0>1 5..5, 1>2 2..6, 2>0 0..9, 0>1 1..3");
    }

    private static CirculationRange bounded(int arc, int least, int most) {
        CirculationRange x = Networks.ring();
        x.bounds(arc, least, most);
        return x;
    }

    private static void boundsOfNoArc() {
        Check.sentence("3: No such arc: NO_ARC; nothing changes then");
        for (int bad : new int[] {-1, 4, 5, 11, 12, 32, Integer.MIN_VALUE, Integer.MAX_VALUE}) {
            refusedBounds(Networks::ring, bad, 1, 2, -4);
        }
        refusedBounds(CirculationRange::new, 0, 0, 0, -4);
        refusedBounds(Networks::twelveLackingArcs, 12, 1, 2, -4);
        refusedBounds(Networks::twelveLackingArcs, -1, 1, 2, -4);
        refusedBounds(ChangeBoundaryTest::ringWithoutLast, 3, 0, 1, -4);
    }

    private static CirculationRange ringWithoutLast() {
        CirculationRange x = Networks.ring();
        x.dropLast();
        return x;
    }

    private static void boundsLeastTooSmall() {
        Check.sentence("3: not 0 <= least: BAD_AMOUNT; nothing changes then");
        for (int bad : TOO_SMALL) {
            refusedBounds(Networks::ring, 0, bad, 2, -2);
            refusedBounds(Networks::ring, 3, bad, 20, -2);
            refusedBounds(Networks::ring, 3, bad, bad, -2);
        }
        refusedBounds(Networks::twelveLackingArcs, 11, -1, 5, -2);
    }

    private static void boundsLeastAboveMost() {
        Check.sentence("3: not least <= most: BAD_AMOUNT; nothing changes then");
        refusedBounds(Networks::ring, 0, 1, 0, -2);
        refusedBounds(Networks::ring, 3, 3, 2, -2);
        refusedBounds(Networks::ring, 2, 20, 19, -2);
        refusedBounds(Networks::ring, 1, 20, 0, -2);
        refusedBounds(Networks::ring, 1, 0, -1, -2);
        refusedBounds(Networks::ring, 1, Integer.MAX_VALUE, Integer.MIN_VALUE, -2);
        refusedBounds(Networks::ring, 1, 0, Integer.MIN_VALUE, -2);
        refusedBounds(Networks::ring, 1, 21, 20, -2);
        refusedBounds(Networks::twelveLackingArcs, 0, 20, 19, -2);
    }

    private static void boundsMostTooLarge() {
        Check.sentence("3: not most <= 20: BAD_AMOUNT; nothing changes then");
        for (int bad : TOO_LARGE) {
            refusedBounds(Networks::ring, 0, 0, bad, -2);
            refusedBounds(Networks::ring, 3, 20, bad, -2);
            refusedBounds(Networks::ring, 3, bad, bad, -2);
        }
        refusedBounds(Networks::twelveLackingArcs, 11, 0, 21, -2);
    }

    private static void refusedBounds(Supplier<CirculationRange> made, int arc, int least, int most, int want) {
        String call = "bounds(" + arc + ", " + least + ", " + most + ")";
        Unchanged.due(call, made, x -> x.bounds(arc, least, most), want);
    }

    private static void boundsAtTheLimits() {
        Check.sentence("3: 0 <= least <= most <= 20");
        for (int[] limits : new int[][] {{0, 0}, {0, 20}, {20, 20}, {7, 7}, {19, 20}, {0, 1}}) {
            String amounts = limits[0] + ".." + limits[1];
            Check.due("bounds to " + amounts, Networks.ring().bounds(2, limits[0], limits[1]), 0);
            Check.due("the arcs", ArcList.of(() -> bounded(2, limits[0], limits[1])),
                    "0>1 0..5, 1>2 2..6, 2>0 " + amounts + ", 0>1 1..3");
        }
    }

    private static void boundsAnswersZero() {
        Check.sentence("3: Else answers 0");
        CirculationRange x = Networks.twelveArcs();
        for (int arc = 0; arc < 12; arc++) {
            Check.due("bounds(" + arc + ", 3, 5)", x.bounds(arc, 3, 5), 0);
            Check.due("the same once more", x.bounds(arc, 3, 5), 0);
        }
        Check.due("bounds that leave no circulation", x.bounds(0, 20, 20), 0);
        Check.due("bounds while there is none", x.bounds(0, 3, 5), 0);
    }

    // Promise 4

    private static void reverseKeepsAmounts() {
        Check.sentence("4: it goes the other way, with the same amounts");
        for (int[] amounts : new int[][] {{0, 0}, {0, 20}, {20, 20}, {3, 8}}) {
            Check.due("turned once", ArcList.of(() -> turned(amounts[0], amounts[1], 1)),
                    "5>0 " + amounts[0] + ".." + amounts[1]);
            Check.due("turned twice", ArcList.of(() -> turned(amounts[0], amounts[1], 2)),
                    "0>5 " + amounts[0] + ".." + amounts[1]);
        }
        Check.due("one of two beside each other", ArcList.of(() -> {
            CirculationRange x = Networks.ring();
            x.reverse(3);
            return x;
        }), "0>1 0..5, 1>2 2..6, 2>0 0..9, 1>0 1..3");
    }

    private static CirculationRange turned(int least, int most, int times) {
        CirculationRange x = Networks.oneArc(0, 5, least, most);
        for (int i = 0; i < times; i++) {
            x.reverse(0);
        }
        return x;
    }

    private static void reverseOfNoArc() {
        Check.sentence("4: No such arc: NO_ARC, nothing changes");
        for (int bad : new int[] {-1, 4, 5, 11, 12, 32, Integer.MIN_VALUE, Integer.MAX_VALUE}) {
            Unchanged.due("reverse(" + bad + ")", Networks::ring, x -> x.reverse(bad), -4);
        }
        Unchanged.due("reverse(0) of none", CirculationRange::new, x -> x.reverse(0), -4);
        Unchanged.due("reverse(12) of twelve", Networks::twelveLackingArcs, x -> x.reverse(12), -4);
        Unchanged.due("reverse(-1) of twelve", Networks::twelveLackingArcs, x -> x.reverse(-1), -4);
        Unchanged.due("reverse(3) of a dropped arc", ChangeBoundaryTest::ringWithoutLast, x -> x.reverse(3), -4);
    }

    private static void reverseAnswersZero() {
        Check.sentence("4: Else answers 0");
        CirculationRange x = Networks.twelveArcs();
        for (int arc = 0; arc < 12; arc++) {
            Check.due("reverse(" + arc + ")", x.reverse(arc), 0);
        }
        Check.due("reverse(0) without a circulation", Networks.lacking().reverse(0), 0);
    }

    // Promise 5

    private static void dropLastTakesTheGreatestNumber() {
        Check.sentence("5: Takes the last arc (the one with the greatest number) out");
        Check.due("after the first was changed", ArcList.of(() -> {
            CirculationRange x = Networks.ring();
            x.bounds(0, 1, 4);
            x.reverse(0);
            x.dropLast();
            return x;
        }), "1>0 1..4, 1>2 2..6, 2>0 0..9");
        Check.due("of twelve, all but one", ArcList.of(() -> {
            CirculationRange x = Networks.twelveArcs();
            for (int i = 0; i < 11; i++) {
                x.dropLast();
            }
            return x;
        }), "0>1 0..20");
        CirculationRange lacking = Networks.lacking();
        lacking.dropLast();
        Check.due("lack() without the arc that lacked", lacking.lack(), 0);
    }

    private static void dropLastOfNone() {
        Check.sentence("5: There is none: NO_ARC");
        Unchanged.due("dropLast() of a new object", CirculationRange::new, CirculationRange::dropLast, -4);
        CirculationRange x = Networks.lacking();
        x.dropLast();
        for (int i = 0; i < 3; i++) {
            Check.due("dropLast() when all are out", x.dropLast(), -4);
        }
        Check.due("arcs()", x.arcs(), 0);
        Check.due("the next arc", x.arc(0, 1, 1), 0);
    }

    private static void dropLastAnswersWhatIsLeft() {
        Check.sentence("5: Else answers how many are left");
        CirculationRange x = Networks.twelveArcs();
        for (int left = 11; left >= 0; left--) {
            Check.due("dropLast()", x.dropLast(), left);
            Check.due("arcs()", x.arcs(), left);
        }
    }

    // Promise 13

    private static void orderOfArcRefusals() {
        Check.sentence("13: arc: the refusals are tested in the order in which they are named there");
        for (int[] vertices : new int[][] {{6, 0}, {0, 6}, {-1, 0}, {0, -1}, {2, 2}, {6, 6}}) {
            int from = vertices[0];
            int to = vertices[1];
            refusedArc(Networks::ring, from, to, 21, -1);
            refusedArc(Networks::ring, from, to, -1, -1);
            refusedArc(Networks::twelveArcs, from, to, 5, -1);
            refusedArc(Networks::twelveArcs, from, to, 21, -1);
        }
        refusedArc(Networks::twelveArcs, 0, 1, 21, -2);
        refusedArc(Networks::twelveArcs, 0, 1, -1, -2);
    }

    private static void orderOfBoundsRefusals() {
        Check.sentence("13: bounds: the refusals are tested in the order in which they are named there");
        for (int bad : new int[] {-1, 4, 12}) {
            refusedBounds(Networks::ring, bad, -1, 5, -4);
            refusedBounds(Networks::ring, bad, 3, 2, -4);
            refusedBounds(Networks::ring, bad, 0, 21, -4);
        }
        refusedBounds(CirculationRange::new, 0, 3, 2, -4);
    }
}

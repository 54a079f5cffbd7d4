/** Long scattered runs of calls, right ones and wrong ones, each answered as the model answers it. */
public final class ModelTest {
    private static final int RUNS = 600;
    private static final int CALLS = 512;

    public static void main(String[] args) {
        for (int run = 0; run < RUNS; run++) {
            oneRun(run);
        }
        Check.end();
    }

    private static void oneRun(int run) {
        Numbers numbers = new Numbers(run);
        CirculationRange x = new CirculationRange();
        Model model = new Model();
        int slack = run % 4 == 0 ? 20 : 2 + run % 4;
        for (int call = 0; call < CALLS; call++) {
            String place = "run " + run + ", call " + call + ": ";
            if (numbers.below(3) == 0) {
                change(place, x, model, numbers, slack);
            } else {
                ask(place, x, model, numbers);
            }
        }
    }

    private static void change(String place, CirculationRange x, Model model, Numbers numbers, int slack) {
        int kind = numbers.below(10);
        if (kind < 4) {
            int from = vertex(numbers);
            int to = vertex(numbers);
            int most = numbers.between(-1, 21);
            Check.due(place + "arc(" + from + ", " + to + ", " + most + ")",
                    x.arc(from, to, most), model.arc(from, to, most));
        } else if (kind < 7) {
            int arc = numbers.between(-1, 12);
            int least = numbers.below(12) == 0 ? numbers.between(-1, 21) : numbers.below(slack);
            int most = numbers.below(12) == 0 ? numbers.between(-1, 21) : numbers.between(Math.min(least, 20), 20);
            Check.due(place + "bounds(" + arc + ", " + least + ", " + most + ")",
                    x.bounds(arc, least, most), model.bounds(arc, least, most));
        } else if (kind < 9) {
            int arc = numbers.between(-1, 12);
            Check.due(place + "reverse(" + arc + ")", x.reverse(arc), model.reverse(arc));
        } else {
            Check.due(place + "dropLast()", x.dropLast(), model.dropLast());
        }
    }

    private static void ask(String place, CirculationRange x, Model model, Numbers numbers) {
        int kind = numbers.below(10);
        int arc = numbers.between(-1, 12);
        int s = vertex(numbers);
        int t = vertex(numbers);
        if (kind == 0) {
            Check.due(place + "possible()", x.possible(), model.possible());
        } else if (kind == 1) {
            Check.due(place + "lack()", x.lack(), model.lack());
        } else if (kind == 2) {
            Check.due(place + "lackingSet()", x.lackingSet(), model.lackingSet());
        } else if (kind == 3) {
            Check.due(place + "arcs()", x.arcs(), model.arcs());
        } else if (kind < 6) {
            Check.due(place + "least(" + arc + ")", x.least(arc), model.least(arc));
        } else if (kind < 8) {
            Check.due(place + "most(" + arc + ")", x.most(arc), model.most(arc));
        } else {
            Check.due(place + "through(" + s + ", " + t + ")", x.through(s, t), model.through(s, t));
        }
    }

    private static int vertex(Numbers numbers) {
        return numbers.below(25) == 0 ? numbers.between(-1, 6) : numbers.below(6);
    }
}

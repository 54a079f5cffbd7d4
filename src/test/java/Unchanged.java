import java.util.function.Supplier;
import java.util.function.ToIntFunction;

/** Calls after which everything must be as it was before. */
final class Unchanged {
    private Unchanged() {
    }

    static void due(String name, Supplier<CirculationRange> made, ToIntFunction<CirculationRange> call, int want) {
        CirculationRange x = made.get();
        String before = Answers.of(x);
        Check.due(name, call.applyAsInt(x), want);
        Check.due("all answers after " + name, Answers.of(x), before);
        Check.due("the arcs after " + name, ArcList.of(() -> after(made.get(), call)), ArcList.of(made));
    }

    private static CirculationRange after(CirculationRange x, ToIntFunction<CirculationRange> call) {
        call.applyAsInt(x);
        return x;
    }
}

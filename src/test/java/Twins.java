import java.util.function.Consumer;
import java.util.function.Predicate;
import java.util.function.ToLongFunction;

/** Two objects of the same calls, one with a refused call more: nothing but STATUS may tell them apart. */
final class Twins {
    private final Check c;
    private final Consumer<MarginPlan> ahead;

    Twins(Check c, Consumer<MarginPlan> ahead) {
        this.c = c;
        this.ahead = ahead;
    }

    private MarginPlan one() {
        MarginPlan x = new MarginPlan();
        ahead.accept(x);
        return x;
    }

    /** A call that gives NONE with this STATUS. */
    void refuses(String call, ToLongFunction<MarginPlan> ask, int status) {
        MarginPlan x = one();
        c.refused(x, call, ask.applyAsLong(x), status);
        alike(call, x);
    }

    /** A call that gives false with this STATUS. */
    void denies(String call, Predicate<MarginPlan> ask, int status) {
        MarginPlan x = one();
        c.refused(x, call, ask.test(x), status);
        alike(call, x);
    }

    /** A TEXT with a FAULT: the tape is empty then, fault() tells of it, and nothing else is other than ahead. */
    void faulty(String call, ToLongFunction<MarginPlan> ask, int fault, int place) {
        MarginPlan x = one();
        c.refused(x, call, ask.applyAsLong(x), 10);
        c.due(call + ", fault(0)", x.fault(0), fault);
        c.due(call + ", fault(1)", x.fault(1), place);
        c.due(call + ", what the tape has then", x.feed(0, 0, 0, 0, 0), 20);
        c.due(call + " leaves", Seen.butTapeAndFault(x), Seen.butTapeAndFault(one()));
    }

    private void alike(String call, MarginPlan x) {
        c.due(call + " leaves", Seen.all(x), Seen.all(one()));
    }
}

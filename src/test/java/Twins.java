import java.util.ArrayList;
import java.util.List;
import java.util.function.Consumer;
import java.util.function.ToLongFunction;

/**
 * Compares two objects by all that the calls let see of them. A view uses its object up, so each is
 * taken of a new pair of objects; none makes more than 400 calls.
 */
final class Twins {
    /** Takes what can be seen of one part of an object's state. */
    interface View {
        void take(CspRefiner x, List<Long> seen);
    }

    static final View SYSTEM = Twins::takeSystem;
    static final View STACK = Twins::takeStack;
    static final View NAMES = Twins::takeNames;
    static final View[] ALL = {SYSTEM, STACK, NAMES};

    private final Check check;

    Twins(Check check) {
        this.check = check;
    }

    /** The call answers the code and leaves the object as it was made. */
    void refused(String what, Consumer<CspRefiner> made, ToLongFunction<CspRefiner> call, long code) {
        same(what, made, x -> {
            made.accept(x);
            check.due(what, call.applyAsLong(x), code);
        }, ALL);
    }

    /** The object made in the one way is as the one made in the other, in these views. */
    void same(String what, Consumer<CspRefiner> one, Consumer<CspRefiner> other, View... views) {
        for (View view : views) {
            List<Long> ofOne = new ArrayList<>();
            List<Long> ofOther = new ArrayList<>();
            CspRefiner x = new CspRefiner();
            one.accept(x);
            view.take(x, ofOne);
            CspRefiner y = new CspRefiner();
            other.accept(y);
            view.take(y, ofOther);
            check.due(what + " leaves the state (1 if it does)", ofOne.equals(ofOther), true);
        }
    }

    /**
     * The queries, then the log backwards to its begin, then the queries again after a define: what
     * the object had already found out of its system must not hide that the system is another.
     */
    private static void takeSystem(CspRefiner x, List<Long> seen) {
        seen.add((long) x.depth());
        takeTraces(x, seen);
        takeGaps(x, seen);
        takeEnds(x, seen);
        for (int n = 0; n <= 4; n++) {
            seen.add((long) x.log());
            seen.add((long) x.offers());
            seen.add((long) Make.refusals(x));
            seen.add((long) x.undo());
        }
        seen.add((long) x.stop());
        seen.add((long) x.define(Make.BUSY_STOP));
        takeTraces(x, seen);
        takeGaps(x, seen);
        takeEnds(x, seen);
        seen.add((long) Make.refusals(x));
    }

    private static void takeTraces(CspRefiner x, List<Long> seen) {
        for (int len = 0; len <= 4; len++) {
            seen.add((long) x.traces(len));
        }
    }

    /** Each term from the top on, as X 6: no term of a busy object names it. */
    private static void takeStack(CspRefiner x, List<Long> seen) {
        int depth = x.depth();
        seen.add((long) depth);
        for (int n = 0; n <= depth && n <= 6; n++) {
            seen.add((long) x.define(Make.BUSY_STOP));
            takeName(x, Make.BUSY_STOP, seen);
        }
    }

    private static void takeNames(CspRefiner x, List<Long> seen) {
        for (int k = 0; k < 8; k++) {
            takeName(x, k, seen);
        }
    }

    /** Beside a process that does every event and shares all of them, the system is X k alone. */
    private static void takeName(CspRefiner x, int k, List<Long> seen) {
        x.system(k, Make.BUSY_RUN, 7);
        takeTraces(x, seen);
        seen.add((long) x.offers());
        seen.add((long) Make.refusals(x));
        takeGaps(x, seen);
        takeEnds(x, seen);
    }

    private static void takeGaps(CspRefiner x, List<Long> seen) {
        for (int k = 0; k < 8; k++) {
            seen.add((long) x.gap(k, 0));
            seen.add((long) x.gap(k, 1));
            seen.add((long) x.gapRefusal(k));
        }
    }

    private static void takeEnds(CspRefiner x, List<Long> seen) {
        seen.add((long) x.refined(0));
        seen.add((long) x.refined(1));
        seen.add((long) x.deadlock());
        seen.add((long) x.unsure());
    }
}

import java.util.function.Consumer;
import java.util.function.ToIntFunction;

/** The boundary cases that the promises 1 to 7 name, each sentence by a test of its own. */
public final class StackBoundaryTest {
    private static final int BAD_ARG = Make.BAD_ARG;
    private static final int FULL = Make.FULL;
    private static final int TOO_FEW = Make.TOO_FEW;
    private static final int NONE = Make.NONE;

    private static final Check CHECK = new Check();
    private static final Twins TWINS = new Twins(CHECK);
    private static final Consumer<CspRefiner> NEW = x -> { };

    public static void main(String[] args) {
        newNamesAreStop();
        newSystem();
        newLogAndStackAreEmpty();
        newAfterAnother();
        stopPushes();
        stopOn6();
        stopAnswersTheNumber();
        preArguments();
        preOn6();
        preArgumentsBeforeFull();
        preAnswersTheNumber();
        preKeepsItsArguments();
        joinTooFew("4 ext", CspRefiner::ext);
        joinTakesTheTopmostTwo("4 ext", CspRefiner::ext, false);
        joinAnswersTheNumber("4 ext", CspRefiner::ext);
        joinTooFew("5 hid", CspRefiner::hid);
        joinTakesTheTopmostTwo("5 hid", CspRefiner::hid, true);
        joinAnswersTheNumber("5 hid", CspRefiner::hid);
        hidIsNotExt();
        depthFrom0To6();
        stackCallsLeaveTheRest();
        defineTakesTheTop();
        defineSeenByOlderTerms();
        defineEmptiesTheLog();
        defineArguments();
        defineOnEmpty();
        defineArgumentsBeforeTooFew();
        defineAnswersTheNumber();
        defineLeavesTheRest();
        CHECK.end("StackBoundaryTest");
    }

    private static void due(String what, long got, long want) {
        CHECK.due(what, got, want);
    }

    private static void due(String what, boolean got, boolean want) {
        CHECK.due(what, got, want);
    }

    // ---- Promise 1

    private static void newNamesAreStop() {
        CHECK.begin("1: Every X k is given by the term stop");
        for (int k = 0; k < 8; k++) {
            CspRefiner x = new CspRefiner();
            x.system(k, k, 0);
            due("X " + k + " refusals", Make.refusals(x), 255);
            due("X " + k + " offers", x.offers(), 0);
            due("X " + k + " traces", x.traces(1), 0);
            due("gap 0 towards it", x.gap(k, 0), NONE);
            due("gap 1 towards it", x.gap(k, 1), NONE);
            Consumer<CspRefiner> defined = y -> { };
            for (int l = 0; l <= k; l++) {
                int name = l;
                defined = defined.andThen(y -> Make.stop(y, name));
            }
            TWINS.same("1 a stop for X 0 to X " + k, NEW, defined, Twins.ALL);
        }
    }

    // X 0 does the event e once. Were it not on both sides, or e not shared, there would be no
    // trace of 1 event or one of 2 events.
    private static void newSystem() {
        CHECK.begin("1: the system is i = 0, j = 0, A = 7");
        for (int e = 0; e < 3; e++) {
            CspRefiner x = new CspRefiner();
            Make.prefix(x, 0, e, 1);
            due("traces 1", x.traces(1), 1);
            due("traces 2", x.traces(2), 0);
            due("offers", x.offers(), 1 << e);
        }
        for (int k = 1; k < 8; k++) {
            CspRefiner x = new CspRefiner();
            Make.run(x, k);
            due("X " + k + " is not in it", x.traces(1), 0);
        }
        Consumer<CspRefiner> names = x -> {
            Make.busyNames(x);
            Make.hid(x, 0, 0, 5, 1, 3);
        };
        Consumer<CspRefiner> namesAndSystem = names.andThen(x -> x.system(0, 0, 7));
        TWINS.same("1 system 0 0 7", names, namesAndSystem, Twins.SYSTEM);
    }

    private static void newLogAndStackAreEmpty() {
        CHECK.begin("1: the log and the stack are empty");
        CspRefiner x = new CspRefiner();
        due("depth", x.depth(), 0);
        due("log", x.log(), 0);
        due("undo", x.undo(), NONE);
        due("ext", x.ext(), TOO_FEW);
        due("hid", x.hid(), TOO_FEW);
        due("define", x.define(0), TOO_FEW);
        due("feed", x.feed(0), NONE);
    }

    private static void newAfterAnother() {
        CHECK.begin("1: a new object knows nothing of another one");
        CspRefiner busy = new CspRefiner();
        Make.busy(4, 3).accept(busy);
        CspRefiner x = new CspRefiner();
        due("depth of the new one", x.depth(), 0);
        due("log of the new one", x.log(), 0);
        due("refused by the new one", x.refuses(7), true);
        due("depth of the other", busy.depth(), 4);
        due("log of the other", busy.log(), Make.BUSY_CODES[3]);
    }

    // ---- Promise 2

    private static void stopPushes() {
        CHECK.begin("2: Pushes stop");
        CspRefiner x = new CspRefiner();
        Make.run(x, 0);
        x.pre(1, 0);
        x.stop();
        x.define(0);
        due("the top is stop", Make.refusals(x), 255);
        due("it does nothing", x.offers(), 0);
        x.define(0);
        due("below it is what was there", x.offers(), 2);
    }

    private static void stopOn6() {
        CHECK.begin("2: FULL if the stack holds 6 terms");
        for (int length = 0; length <= 4; length++) {
            TWINS.refused("stop on 6", Make.busy(6, length), CspRefiner::stop, FULL);
        }
        CspRefiner x = new CspRefiner();
        Make.busyStack(x, 5);
        due("on 5", x.stop(), 6);
        due("on 6", x.stop(), FULL);
        due("on 6 again", x.stop(), FULL);
        due("depth", x.depth(), 6);
        x.ext();
        due("on 5 again", x.stop(), 6);
        x.hid();
        due("on 5 again", x.stop(), 6);
        x.define(0);
        due("on 5 again", x.stop(), 6);
        due("on 6", x.stop(), FULL);
    }

    private static void stopAnswersTheNumber() {
        CHECK.begin("2: Otherwise answers the number of terms on it afterwards");
        CspRefiner x = new CspRefiner();
        for (int n = 1; n <= 6; n++) {
            due("stop on " + (n - 1), x.stop(), n);
        }
    }

    // ---- Promise 3

    private static void preArguments() {
        CHECK.begin("3: a not 0 to 2 or k not 0 to 7 answers BAD_ARG");
        for (int a = 0; a <= 2; a++) {
            for (int k = 0; k <= 7; k++) {
                CspRefiner x = new CspRefiner();
                due("pre " + a + " " + k, x.pre(a, k), 1);
                due("pre " + a + " " + k, x.pre(a, k), 2);
            }
        }
        CspRefiner x = new CspRefiner();
        for (int wrong : Make.outside(2)) {
            due("a = " + wrong, x.pre(wrong, 0), BAD_ARG);
            due("a = " + wrong, x.pre(wrong, 7), BAD_ARG);
        }
        for (int a = 3; a <= 8; a++) {
            due("a = " + a, x.pre(a, 0), BAD_ARG);
        }
        for (int wrong : Make.outside(7)) {
            due("k = " + wrong, x.pre(0, wrong), BAD_ARG);
            due("k = " + wrong, x.pre(2, wrong), BAD_ARG);
            due("both = " + wrong, x.pre(wrong, wrong), BAD_ARG);
        }
        due("depth", x.depth(), 0);
        for (int depth = 0; depth <= 6; depth++) {
            Consumer<CspRefiner> made = Make.busy(depth, 2);
            TWINS.refused("pre -1 0", made, y -> y.pre(-1, 0), BAD_ARG);
            TWINS.refused("pre 3 7", made, y -> y.pre(3, 7), BAD_ARG);
            TWINS.refused("pre 0 -1", made, y -> y.pre(0, -1), BAD_ARG);
            TWINS.refused("pre 2 8", made, y -> y.pre(2, 8), BAD_ARG);
            TWINS.refused("pre 3 8", made, y -> y.pre(3, 8), BAD_ARG);
        }
    }

    private static void preOn6() {
        CHECK.begin("3: the stack holds 6 terms answers FULL");
        for (int length = 0; length <= 4; length++) {
            TWINS.refused("pre 0 0 on 6", Make.busy(6, length), x -> x.pre(0, 0), FULL);
            TWINS.refused("pre 2 7 on 6", Make.busy(6, length), x -> x.pre(2, 7), FULL);
        }
        CspRefiner x = new CspRefiner();
        Make.busyStack(x, 5);
        due("on 5", x.pre(2, 7), 6);
        due("on 6", x.pre(2, 7), FULL);
        due("on 6 again", x.pre(0, 0), FULL);
        due("depth", x.depth(), 6);
        x.define(0);
        due("on 5 again", x.pre(0, 0), 6);
    }

    private static void preArgumentsBeforeFull() {
        CHECK.begin("3: Tested in this order: BAD_ARG, FULL");
        CspRefiner x = new CspRefiner();
        Make.busyStack(x, 6);
        for (int wrong : Make.outside(2)) {
            due("a = " + wrong + " on 6", x.pre(wrong, 0), BAD_ARG);
        }
        for (int wrong : Make.outside(7)) {
            due("k = " + wrong + " on 6", x.pre(0, wrong), BAD_ARG);
        }
        due("good arguments on 6", x.pre(0, 0), FULL);
    }

    private static void preAnswersTheNumber() {
        CHECK.begin("3: Otherwise answers the number of terms afterwards");
        CspRefiner x = new CspRefiner();
        for (int n = 1; n <= 6; n++) {
            due("pre on " + (n - 1), x.pre(n % 3, n), n);
        }
    }

    // Each name offers another set of events, so that it is known by what is offered behind a.
    private static void preKeepsItsArguments() {
        CHECK.begin("3: Pushes pre a k");
        for (int a = 0; a <= 2; a++) {
            for (int k = 0; k <= 7; k++) {
                CspRefiner x = new CspRefiner();
                Make.stop(x, 0);
                Make.prefix(x, 1, 0, 0);
                Make.prefix(x, 2, 1, 0);
                Make.prefix(x, 3, 2, 0);
                Make.ext(x, 4, 0, 0, 1, 0);
                Make.ext(x, 5, 0, 0, 2, 0);
                Make.ext(x, 6, 1, 0, 2, 0);
                Make.offerAll(x, 7, 0, 0, 0);
                int[] offers = {0, 1, 2, 4, 3, 5, 6, 7};
                offers[0] = 1 << a;
                Make.prefix(x, 0, a, k);
                due("offers " + a, x.offers(), 1 << a);
                due("feed " + a, x.feed(a), 1);
                due("goes on as " + k, x.offers(), offers[k]);
            }
        }
    }

    // ---- Promises 4 and 5

    private static void joinTooFew(String name, ToIntFunction<CspRefiner> join) {
        CHECK.begin(name + ": TOO_FEW if there are fewer than two");
        for (int length = 0; length <= 4; length++) {
            TWINS.refused("on 0", Make.busy(0, length), join::applyAsInt, TOO_FEW);
            TWINS.refused("on 1", Make.busy(1, length), join::applyAsInt, TOO_FEW);
        }
        TWINS.refused("on 0, new", NEW, join::applyAsInt, TOO_FEW);
        CspRefiner x = new CspRefiner();
        due("on 0", join.applyAsInt(x), TOO_FEW);
        x.pre(2, 1);
        due("on 1", join.applyAsInt(x), TOO_FEW);
        due("on 1 again", join.applyAsInt(x), TOO_FEW);
        due("depth", x.depth(), 1);
        x.pre(2, 1);
        due("on 2", join.applyAsInt(x), 1);
        due("on 1 again", join.applyAsInt(x), TOO_FEW);
        due("define", x.define(0), 0);
        due("the term is there", x.offers(), 4);
        due("on 0 again", join.applyAsInt(x), TOO_FEW);
    }

    /** The stack is pre 0, pre 1, pre 2: either join leaves pre 0 below and a term with 1 and 2 on top. */
    private static void joinTakesTheTopmostTwo(String name, ToIntFunction<CspRefiner> join, boolean hidden) {
        CHECK.begin(name + ": Takes the two topmost terms off and pushes the join of them");
        CspRefiner x = new CspRefiner();
        Make.run(x, 7);
        Make.prefix(x, 2, 1, 2);
        x.pre(0, 1);
        x.pre(1, 2);
        x.pre(2, 3);
        due("on 3", join.applyAsInt(x), 2);
        due("define", x.define(0), 1);
        x.system(0, 7, 7);
        due("offers", x.offers(), 6);
        for (int e = 1; e <= 2; e++) {
            due("refuses " + e + " alone", x.refuses(1 << e), hidden);
        }
        due("not both", x.refuses(6), false);
        due("0 it never does", x.refuses(1), true);
        x.feed(1);
        due("X 2 behind 1", x.offers(), 2);
        x.undo();
        x.feed(2);
        due("X 3 behind 2", x.offers(), 0);
        due("define", x.define(0), 0);
        due("the term below", x.offers(), 1);
    }

    private static void joinAnswersTheNumber(String name, ToIntFunction<CspRefiner> join) {
        CHECK.begin(name + ": Otherwise answers the number of terms afterwards");
        for (int depth = 2; depth <= 6; depth++) {
            CspRefiner x = new CspRefiner();
            Make.busyStack(x, depth);
            for (int n = depth - 1; n >= 1; n--) {
                due("on " + (n + 1), join.applyAsInt(x), n);
                due("depth", x.depth(), n);
            }
            due("on 1", join.applyAsInt(x), TOO_FEW);
        }
    }

    private static void hidIsNotExt() {
        CHECK.begin("5: As ext, but pushes hid of them");
        CspRefiner x = new CspRefiner();
        x.pre(0, 1);
        x.stop();
        due("hid", x.hid(), 1);
        x.define(0);
        due("refuses all, too", x.refuses(7), true);
        due("offers", x.offers(), 1);
        due("unsure", x.unsure(), 1);
        x.pre(0, 1);
        x.stop();
        due("ext", x.ext(), 1);
        x.define(0);
        due("does not refuse 0", x.refuses(1), false);
        due("offers", x.offers(), 1);
        due("unsure", x.unsure(), NONE);
    }

    // ---- Promise 6

    private static void depthFrom0To6() {
        CHECK.begin("6: The number of terms on the stack");
        CspRefiner x = new CspRefiner();
        due("new", x.depth(), 0);
        for (int n = 1; n <= 6; n++) {
            due("push", n % 2 == 0 ? x.stop() : x.pre(0, 0), n);
            due("depth", x.depth(), n);
        }
        x.stop();
        due("after FULL", x.depth(), 6);
        x.pre(0, 9);
        due("after BAD_ARG", x.depth(), 6);
        for (int n = 5; n >= 1; n--) {
            due("join", n % 2 == 0 ? x.ext() : x.hid(), n);
            due("depth", x.depth(), n);
        }
        x.ext();
        due("after TOO_FEW", x.depth(), 1);
        x.define(8);
        due("after BAD_ARG", x.depth(), 1);
        x.define(3);
        due("after define", x.depth(), 0);
        x.define(3);
        due("after TOO_FEW", x.depth(), 0);
        Make.busyStack(x, 4);
        x.system(1, 2, 3);
        due("after system", x.depth(), 4);
        x.feed(0);
        x.undo();
        due("after feed and undo", x.depth(), 4);
    }

    private static void stackCallsLeaveTheRest() {
        CHECK.begin("2 to 5: the calls on the stack change the stack alone");
        for (int length = 0; length <= 4; length++) {
            Consumer<CspRefiner> made = Make.busy(4, length);
            TWINS.same("stop", made, made.andThen(CspRefiner::stop).andThen(CspRefiner::ext).andThen(x -> {
                x.stop();
                x.pre(0, 7);
                x.hid();
                x.ext();
            }), Twins.NAMES);
            TWINS.same("push and define", made.andThen(x -> {
                x.stop();
                x.define(7);
            }), made.andThen(x -> {
                x.pre(2, 3);
                x.stop();
                x.define(7);
                x.define(7);
                x.stop();
                x.define(7);
            }), Twins.ALL);
            CspRefiner x = new CspRefiner();
            made.accept(x);
            x.stop();
            x.pre(1, 1);
            x.ext();
            x.hid();
            due("log", x.log(), Make.BUSY_CODES[length]);
            due("feed", x.feed(Make.BUSY_LOG[length % 4]), length == 4 ? FULL : length + 1);
        }
    }

    // ---- Promise 7

    private static void defineTakesTheTop() {
        CHECK.begin("7: Takes the top term off; X k is from now on given by it");
        for (int k = 0; k < 8; k++) {
            CspRefiner x = new CspRefiner();
            x.pre(0, 7 - k);
            x.pre(1, 7 - k);
            x.pre(2, 7 - k);
            x.system(k, k, 7);
            due("before", x.offers(), 0);
            for (int n = 2; n >= 0; n--) {
                due("define", x.define(k), n);
                due("X " + k, x.offers(), 1 << n);
                due("X " + k + " alone", x.traces(2), 0);
            }
        }
    }

    private static void defineSeenByOlderTerms() {
        CHECK.begin("7: (also where older terms name k)");
        for (int k = 1; k < 8; k++) {
            CspRefiner x = new CspRefiner();
            Make.prefix(x, 0, 0, k);
            x.pre(2, k);
            due("before", x.traces(2), 0);
            Make.prefix(x, k, 1, k);
            due("a name given before", x.traces(4), 1);
            due("feed", x.feed(0), 1);
            due("goes on", x.offers(), 2);
            x.define(0);
            due("a term on the stack", x.traces(4), 1);
            due("feed", x.feed(2), 1);
            due("goes on", x.offers(), 2);
            Make.stop(x, k);
            due("taken back", x.traces(2), 0);
            due("but not X 0", x.traces(1), 1);
        }
        CspRefiner x = new CspRefiner();
        x.pre(1, 0);
        x.stop();
        x.hid();
        x.define(0);
        due("itself", x.traces(4), 1);
        Make.prefix(x, 0, 2, 0);
        due("itself anew", x.offers(), 4);
        due("itself anew", x.traces(4), 1);
    }

    private static void defineEmptiesTheLog() {
        CHECK.begin("7: The log becomes empty");
        for (int length = 0; length <= 4; length++) {
            for (int k = 0; k < 8; k++) {
                CspRefiner x = new CspRefiner();
                Make.busy(1, length).accept(x);
                due("log before", x.log(), Make.BUSY_CODES[length]);
                due("define", x.define(k), 0);
                due("log after define " + k, x.log(), 0);
                due("undo", x.undo(), NONE);
            }
        }
        // Also when X k is given by the term that it has, and when the system has not X k.
        CspRefiner x = new CspRefiner();
        Make.run(x, 0);
        x.feed(1);
        x.feed(2);
        Make.run(x, 0);
        due("the same term", x.log(), 0);
        x.feed(2);
        x.stop();
        due("not by stop", x.log(), 3);
        x.define(7);
        due("a name apart", x.log(), 0);
    }

    private static void defineArguments() {
        CHECK.begin("7: k not 0 to 7 answers BAD_ARG");
        CspRefiner x = new CspRefiner();
        Make.busyStack(x, 1);
        for (int wrong : Make.outside(7)) {
            due("k = " + wrong, x.define(wrong), BAD_ARG);
        }
        due("depth", x.depth(), 1);
        due("k = 7", x.define(7), 0);
        x.stop();
        due("k = 0", x.define(0), 0);
        for (int depth = 1; depth <= 6; depth++) {
            for (int length = 0; length <= 4; length += 2) {
                TWINS.refused("define -1", Make.busy(depth, length), y -> y.define(-1), BAD_ARG);
                TWINS.refused("define 8", Make.busy(depth, length), y -> y.define(8), BAD_ARG);
            }
        }
    }

    private static void defineOnEmpty() {
        CHECK.begin("7: empty stack answers TOO_FEW");
        for (int k = 0; k < 8; k++) {
            int name = k;
            TWINS.refused("define on empty, new", NEW, x -> x.define(name), TOO_FEW);
            TWINS.refused("define on empty", Make.busy(0, k % 5), x -> x.define(name), TOO_FEW);
        }
        CspRefiner x = new CspRefiner();
        due("on 0", x.define(0), TOO_FEW);
        x.pre(0, 0);
        due("on 1", x.define(0), 0);
        due("on 0 again", x.define(0), TOO_FEW);
        due("X 0 stays", x.offers(), 1);
    }

    private static void defineArgumentsBeforeTooFew() {
        CHECK.begin("7: Tested in this order: BAD_ARG, TOO_FEW");
        for (int length = 0; length <= 4; length++) {
            TWINS.refused("define -1 on empty", Make.busy(0, length), x -> x.define(-1), BAD_ARG);
            TWINS.refused("define 8 on empty", Make.busy(0, length), x -> x.define(8), BAD_ARG);
        }
        CspRefiner x = new CspRefiner();
        for (int wrong : Make.outside(7)) {
            due("k = " + wrong + " on empty", x.define(wrong), BAD_ARG);
        }
        due("k = 0 on empty", x.define(0), TOO_FEW);
    }

    private static void defineAnswersTheNumber() {
        CHECK.begin("7: Otherwise answers the number of terms afterwards");
        CspRefiner x = new CspRefiner();
        Make.busyStack(x, 6);
        for (int n = 5; n >= 0; n--) {
            due("define on " + (n + 1), x.define(n), n);
            due("depth", x.depth(), n);
        }
    }

    private static void defineLeavesTheRest() {
        CHECK.begin("7: define changes X k, the stack and the log alone");
        for (int k = 0; k < 8; k++) {
            int name = k;
            // X 7 is given again by the term that it has: all else is as it was.
            Consumer<CspRefiner> again = x -> Make.prefix(x, 7, 1, 7);
            TWINS.same("define again", Make.busy(name % 5, 0), Make.busy(name % 5, name % 5).andThen(again),
                Twins.ALL);
        }
        CspRefiner x = new CspRefiner();
        Make.prefix(x, 1, 0, 1);
        Make.prefix(x, 2, 1, 2);
        x.system(1, 2, 4);
        Make.prefix(x, 3, 2, 3);
        due("the system stays", x.offers(), 3);
        Make.prefix(x, 2, 2, 2);
        due("2 is shared as before", x.offers(), 1);
    }
}

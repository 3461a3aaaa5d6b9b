import java.util.function.Consumer;

/** The boundary cases that the promises 14 to 19 name, each sentence by a test of its own. */
public final class SearchBoundaryTest {
    private static final int BAD_ARG = Make.BAD_ARG;
    private static final int NONE = Make.NONE;

    private static final Check CHECK = new Check();
    private static final Twins TWINS = new Twins(CHECK);

    public static void main(String[] args) {
        tracesOfExactlyLen();
        tracesFrom0To81();
        tracesOfEachWordOnce();
        tracesArguments();
        gapOfKind0();
        gapOfKind0IsNeverEmpty();
        gapOfKind1();
        gapOfKind1BySomeR();
        gapTowardsHiddenWays();
        gapAtEachLength();
        gapAtTheLastWord();
        gapNone();
        gapArguments();
        gapArgumentsFirst();
        gapRefusalOfEachR();
        gapRefusalAtTheFirstGap();
        gapRefusalIsTheLeast();
        searchesOfAnyTwoChoices();
        gapRefusalArguments();
        gapRefusalNone();
        refinedFrom0To8();
        refinedByKind();
        refinedArguments();
        deadlockFirst();
        deadlockIsAllAtOnce();
        deadlockAtEachLength();
        deadlockNone();
        unsureFirst();
        unsureIsATrace();
        unsureAloneIsTheEvent();
        unsureAtEachLength();
        unsureNone();
        noneOfThemLooksAtTheLog();
        CHECK.end("SearchBoundaryTest");
    }

    private static void due(String what, long got, long want) {
        CHECK.due(what, got, want);
    }

    private static int zeros(int length) {
        return new int[] {0, 1, 5, 21, 85}[length];
    }

    /** X name may do any event of the set and then is X 7, but which one is hidden. */
    private static void hidden(CspRefiner x, int name, int set) {
        int terms = 0;
        for (int e = 0; e < 3; e++) {
            if ((set >> e) % 2 == 1) {
                x.pre(e, 7);
                terms++;
            }
        }
        for (int n = 1; n < terms; n++) {
            x.hid();
        }
        x.define(name);
    }

    /** Pushes a term that may do the event a, go on as X k, or refuse it. */
    private static void pushUnsure(CspRefiner x, int a, int k) {
        x.pre(a, k);
        x.stop();
        x.hid();
    }

    // ---- Promise 14

    private static void tracesOfExactlyLen() {
        CHECK.begin("14: How many traces of exactly len events the system has");
        // X 0 has 2 traces of 1 event, 3 of 2 events, 1 of 3 events and none of 4.
        CspRefiner x = new CspRefiner();
        Make.ext(x, 0, 0, 1, 2, 2);
        Make.offerAll(x, 1, 7, 3, 7);
        Make.prefix(x, 3, 0, 7);
        int[] counts = {1, 2, 3, 1, 0};
        for (int len = 0; len <= 4; len++) {
            due("traces " + len, x.traces(len), counts[len]);
        }
        Make.stop(x, 0);
        for (int len = 0; len <= 4; len++) {
            due("stop, traces " + len, x.traces(len), len == 0 ? 1 : 0);
        }
        for (int n = 1; n <= 4; n++) {
            x = new CspRefiner();
            Make.chain(x, 0, n, 2);
            for (int len = 0; len <= 4; len++) {
                due("of " + n + " events, traces " + len, x.traces(len), len <= n ? 1 : 0);
            }
        }
    }

    private static void tracesFrom0To81() {
        CHECK.begin("14: all words of len events at most");
        CspRefiner x = new CspRefiner();
        Make.run(x, 0);
        int[] all = {1, 3, 9, 27, 81};
        for (int shared = 0; shared < 8; shared++) {
            x.system(0, 0, shared);
            for (int len = 0; len <= 4; len++) {
                due("traces " + len, x.traces(len), all[len]);
            }
        }
        // One word of 4 events is wanting: 0 1 2 2.
        Make.offerAll(x, 1, 2, 0, 0);
        Make.offerAll(x, 2, 0, 3, 0);
        Make.offerAll(x, 3, 0, 0, 4);
        Make.ext(x, 4, 0, 0, 1, 0);
        x.system(1, 1, 7);
        due("traces 3", x.traces(3), 27);
        due("traces 4", x.traces(4), 80);
    }

    // A word that can be parted in two ways is one trace.
    private static void tracesOfEachWordOnce() {
        CHECK.begin("14: traces are words, each counted once");
        CspRefiner x = new CspRefiner();
        Make.hid(x, 0, 1, 0, 1, 1);
        Make.prefix(x, 1, 1, 0);
        for (int shared = 0; shared < 8; shared++) {
            x.system(0, 1, shared);
            for (int len = 0; len <= 4; len++) {
                due("traces " + len, x.traces(len), 1);
            }
        }
    }

    private static void tracesArguments() {
        CHECK.begin("14: BAD_ARG if len is not 0 to 4");
        CspRefiner x = new CspRefiner();
        Make.run(x, 0);
        for (int wrong : Make.outside(4)) {
            due("len = " + wrong, x.traces(wrong), BAD_ARG);
        }
        due("len = 0", x.traces(0), 1);
        due("len = 4", x.traces(4), 81);
        for (int length = 0; length <= 4; length++) {
            TWINS.refused("len = -1", Make.busy(2, length), y -> y.traces(-1), BAD_ARG);
            TWINS.refused("len = 5", Make.busy(2, length), y -> y.traces(5), BAD_ARG);
        }
    }

    // ---- Promise 15

    private static void gapOfKind0() {
        CHECK.begin("15: a trace of the system that is not a trace of X k");
        // X 0 does 0 for ever; X 3 to X 6 do it 4 to 1 times, X 7 not at all.
        CspRefiner x = new CspRefiner();
        Make.prefix(x, 0, 0, 0);
        Make.prefix(x, 1, 1, 1);
        Make.run(x, 2);
        Make.chain(x, 3, 7, 0);
        int[] gaps = {NONE, 1, NONE, NONE, 85, 21, 5, 1};
        for (int k = 0; k < 8; k++) {
            due("towards X " + k, x.gap(k, 0), gaps[k]);
        }
        x.system(3, 3, 7);
        int[] gapsOf3 = {NONE, 1, NONE, NONE, 85, 21, 5, 1};
        for (int k = 0; k < 8; k++) {
            due("of X 3 towards X " + k, x.gap(k, 0), gapsOf3[k]);
        }
        x.system(6, 6, 7);
        for (int k = 0; k < 8; k++) {
            due("of X 6 towards X " + k, x.gap(k, 0), k == 1 || k == 7 ? 1 : NONE);
        }
        x.system(2, 2, 7);
        for (int k = 0; k < 8; k++) {
            due("of all towards X " + k, x.gap(k, 0), k == 2 ? NONE : k == 1 || k == 7 ? 1 : 2);
        }
    }

    private static void gapOfKind0IsNeverEmpty() {
        CHECK.begin("15: refusals alone are no gap of kind 0");
        CspRefiner x = new CspRefiner();
        for (int k = 0; k < 8; k++) {
            Make.run(x, k);
        }
        x.pre(0, 0);
        x.stop();
        x.hid();
        x.define(5);
        x.system(5, 5, 7);
        for (int k = 0; k < 8; k++) {
            due("kind 0 towards X " + k, x.gap(k, 0), NONE);
            due("kind 1 towards X " + k, x.gap(k, 1), k == 5 ? NONE : 0);
        }
    }

    private static void gapOfKind1() {
        CHECK.begin("15: a word u for which some (u, R) is a failure of the system and not of X k");
        // X 0 does 0 for ever; X 3 to X 6 do it 4 to 1 times, X 7 not at all.
        CspRefiner x = new CspRefiner();
        Make.prefix(x, 0, 0, 0);
        Make.prefix(x, 1, 1, 1);
        Make.run(x, 2);
        Make.chain(x, 3, 7, 0);
        int[] gaps = {NONE, 0, 0, NONE, 85, 21, 5, 1};
        for (int k = 0; k < 8; k++) {
            due("towards X " + k, x.gap(k, 1), gaps[k]);
        }
        x.system(3, 3, 7);
        int[] gapsOf3 = {85, 0, 0, NONE, 85, 21, 5, 1};
        for (int k = 0; k < 8; k++) {
            due("of X 3 towards X " + k, x.gap(k, 1), gapsOf3[k]);
        }
        x.system(6, 6, 7);
        int[] gapsOf6 = {1, 0, 0, 1, 1, 1, NONE, 1};
        for (int k = 0; k < 8; k++) {
            due("of X 6 towards X " + k, x.gap(k, 1), gapsOf6[k]);
        }
        x.system(7, 7, 7);
        for (int k = 0; k < 8; k++) {
            due("of stop towards X " + k, x.gap(k, 1), k == 7 ? NONE : 0);
        }
    }

    // Of the sets without 2, which pre 2 refuses, X 0 refuses all but 3.
    private static void gapOfKind1BySomeR() {
        CHECK.begin("15: some (u, R), be it one R alone");
        CspRefiner x = new CspRefiner();
        hidden(x, 0, 3);
        Make.prefix(x, 1, 2, 7);
        x.system(1, 1, 7);
        due("R = 3 alone", x.gap(0, 1), 0);
        due("it is 3", x.gapRefusal(0), 3);
        hidden(x, 0, 7);
        Make.stop(x, 1);
        due("R = 7 alone", x.gap(0, 1), 0);
        due("it is 7", x.gapRefusal(0), 7);
        due("no gap of kind 0", x.gap(0, 0), NONE);
        x.system(0, 1, 0);
        due("the other way", x.gap(1, 1), 1);
        due("towards itself", x.gap(0, 1), NONE);
    }

    // Behind 0 the specification X 0 may be X 1, X 2 or X 3, and has the failures of all three.
    private static void gapTowardsHiddenWays() {
        CHECK.begin("15: not a failure of X k, in any of the ways that X k may go");
        CspRefiner x = new CspRefiner();
        x.pre(0, 1);
        x.pre(0, 2);
        x.ext();
        x.pre(0, 3);
        x.hid();
        x.define(0);
        Make.prefix(x, 4, 2, 4);
        int[][] eventsOf = {{0, 1, 2}, {0, 1, 0}, {1, 0, 0}, {0, 0, 1}, {2, 1, 0}, {2, 2, 2}};
        for (int[] events : eventsOf) {
            for (int n = 1; n <= 3; n++) {
                Make.prefix(x, n, events[n - 1], 4);
            }
            for (int n = 1; n <= 3; n++) {
                Make.prefix(x, 5, 0, n);
                x.system(5, 5, 7);
                due("the way by X " + n + ", kind 0", x.gap(0, 0), NONE);
                due("the way by X " + n + ", kind 1", x.gap(0, 1), NONE);
            }
            x.system(0, 6, 0);
            due("all ways, kind 0", x.gap(0, 0), NONE);
            due("all ways, kind 1", x.gap(0, 1), NONE);
        }
        Make.prefix(x, 3, 1, 4);
        Make.prefix(x, 5, 0, 1);
        x.system(0, 6, 0);
        due("by 1 or 2, towards 0 2", x.gap(5, 0), Make.codeOf(0, 1));
        due("by 1 or 2, towards 0 2", x.gap(5, 1), Make.codeOf(0));
        due("what 0 2 may not refuse", x.gapRefusal(5), 4);
        Make.ext(x, 7, 1, 4, 2, 4);
        Make.prefix(x, 5, 0, 7);
        due("by 1 or 2, towards the offer of both", x.gap(5, 0), NONE);
        due("by 1 or 2, towards the offer of both", x.gap(5, 1), Make.codeOf(0));
        due("either may be refused", x.gapRefusal(5), 2);
        x.system(5, 6, 0);
        due("the offer of both, towards 1 or 2", x.gap(0, 1), NONE);
    }

    private static void gapAtEachLength() {
        CHECK.begin("15: Answers the code of the first gap, at 0 to 4 events");
        for (int n = 0; n <= 4; n++) {
            // X 0 stops behind n events, X 7 goes on for ever.
            CspRefiner x = new CspRefiner();
            Make.prefix(x, 7, 0, 7);
            Make.chain(x, 0, n, 0);
            due("kind 1", x.gap(7, 1), zeros(n));
            due("its R", x.gapRefusal(7), 1);
            due("kind 0", x.gap(7, 0), NONE);
            x.system(7, 7, 7);
            due("the other way, kind 0", x.gap(0, 0), n < 4 ? zeros(n + 1) : NONE);
            due("the other way, kind 1", x.gap(0, 1), n < 4 ? zeros(n + 1) : NONE);
            due("its R", x.gapRefusal(0), n < 4 ? 0 : NONE);
        }
        CspRefiner x = new CspRefiner();
        Make.prefix(x, 7, 0, 7);
        Make.chain(x, 0, 5, 0);
        due("behind 5 events", x.gap(7, 1), NONE);
        due("behind 5 events", x.gapRefusal(7), NONE);
    }

    private static void gapAtTheLastWord() {
        CHECK.begin("15: the last word in the order, 2 2 2 2");
        // X 0 lacks the word 2 2 2 2 alone; X 7 does all.
        CspRefiner x = new CspRefiner();
        Make.run(x, 7);
        for (int k = 0; k < 3; k++) {
            Make.offerAll(x, k, 7, 7, k + 1);
        }
        Make.ext(x, 3, 0, 7, 1, 7);
        x.system(7, 7, 7);
        due("kind 0", x.gap(0, 0), 255);
        due("kind 1", x.gap(0, 1), 255);
        due("its R", x.gapRefusal(0), 0);
        // Now X 0 has it but stops behind it.
        Make.offerAll(x, 3, 7, 7, 4);
        x.system(0, 0, 7);
        due("kind 0", x.gap(7, 0), NONE);
        due("kind 1", x.gap(7, 1), 255);
        due("its R", x.gapRefusal(7), 1);
        due("deadlock", x.deadlock(), 255);
        // And now behind 2 2 2 it may refuse 2.
        x.pre(2, 7);
        x.stop();
        x.hid();
        x.pre(0, 7);
        x.pre(1, 7);
        x.ext();
        x.ext();
        x.define(3);
        due("unsure", x.unsure(), 255);
        due("deadlock", x.deadlock(), NONE);
    }

    private static void gapNone() {
        CHECK.begin("15: NONE if there is none");
        CspRefiner x = new CspRefiner();
        for (int k = 0; k < 8; k++) {
            due("new, kind 0", x.gap(k, 0), NONE);
            due("new, kind 1", x.gap(k, 1), NONE);
        }
        Make.busyNames(x);
        for (int k = 0; k < 8; k++) {
            x.system(k, Make.BUSY_RUN, 7);
            due("towards itself, kind 0", x.gap(k, 0), NONE);
            due("towards itself, kind 1", x.gap(k, 1), NONE);
            due("towards all, kind 0", x.gap(Make.BUSY_RUN, 0), NONE);
        }
    }

    private static void gapArguments() {
        CHECK.begin("15: k not 0 to 7 or kind not 0 or 1 answers BAD_ARG");
        CspRefiner x = new CspRefiner();
        for (int wrong : Make.outside(7)) {
            due("k = " + wrong, x.gap(wrong, 0), BAD_ARG);
            due("k = " + wrong, x.gap(wrong, 1), BAD_ARG);
            due("k and kind = " + wrong, x.gap(wrong, wrong), BAD_ARG);
        }
        for (int wrong : Make.outside(1)) {
            due("kind = " + wrong, x.gap(0, wrong), BAD_ARG);
            due("kind = " + wrong, x.gap(7, wrong), BAD_ARG);
        }
        for (int kind = 2; kind <= 7; kind++) {
            due("kind = " + kind, x.gap(0, kind), BAD_ARG);
        }
        for (int length = 0; length <= 4; length++) {
            Consumer<CspRefiner> made = Make.busy(2, length);
            TWINS.refused("k = -1", made, y -> y.gap(-1, 0), BAD_ARG);
            TWINS.refused("k = 8", made, y -> y.gap(8, 1), BAD_ARG);
            TWINS.refused("kind = -1", made, y -> y.gap(0, -1), BAD_ARG);
            TWINS.refused("kind = 2", made, y -> y.gap(7, 2), BAD_ARG);
        }
    }

    private static void gapArgumentsFirst() {
        CHECK.begin("15: Tested first");
        // Towards X 0 to X 6 there is a gap of each kind, towards X 7 none.
        CspRefiner x = new CspRefiner();
        Make.prefix(x, 7, 2, 7);
        x.system(7, 7, 7);
        due("a gap", x.gap(0, 0), 3);
        due("no gap", x.gap(7, 1), NONE);
        for (int wrong : Make.outside(1)) {
            due("kind = " + wrong + " where there is a gap", x.gap(0, wrong), BAD_ARG);
            due("kind = " + wrong + " where there is none", x.gap(7, wrong), BAD_ARG);
        }
        for (int wrong : Make.outside(7)) {
            due("k = " + wrong, x.gap(wrong, 0), BAD_ARG);
            due("k = " + wrong, x.gap(wrong, 1), BAD_ARG);
        }
    }

    // ---- Promise 16

    private static void gapRefusalOfEachR() {
        CHECK.begin("16: the least R (as a number), each of 0 to 7");
        for (int n = 0; n <= 4; n++) {
            for (int set = 1; set <= 7; set++) {
                // Behind n events 0 the specification X 0 may refuse what has not all of the set,
                // and the system all.
                CspRefiner x = new CspRefiner();
                Make.chain(x, 0, n, 0);
                hidden(x, n, set);
                due("system", stoppingAfter(x, n), 0);
                due("R = " + set + " behind " + n, x.gapRefusal(0), set);
                due("its word", x.gap(0, 1), zeros(n));
            }
        }
        // R = 0: the word is no trace of X k.
        CspRefiner x = new CspRefiner();
        Make.prefix(x, 0, 0, 0);
        due("R = 0", x.gapRefusal(1), 0);
        due("its word", x.gap(1, 1), 1);
    }

    /** Makes a system of X 5 to X 7 alone whose two sides together do 0 for n times and then stop. */
    private static int stoppingAfter(CspRefiner x, int n) {
        Make.prefix(x, 5, 0, 7);
        Make.prefix(x, 7, 0, 6);
        // X 5 does it twice, X 7 once, X 6 never.
        int[][] sides = {{6, 6}, {7, 6}, {5, 6}, {5, 7}, {5, 5}};
        return x.system(sides[n][0], sides[n][1], 0);
    }

    private static void gapRefusalAtTheFirstGap() {
        CHECK.begin("16: With u the first gap of kind 1 towards X k");
        // X 1 does 0 or stops, X 0 does 1 or 2: the empty word comes before the trace 0.
        CspRefiner x = new CspRefiner();
        hidden(x, 0, 6);
        pushUnsure(x, 0, 2);
        x.define(1);
        x.system(1, 1, 7);
        due("the gap of kind 0", x.gap(0, 0), 1);
        due("the gap of kind 1", x.gap(0, 1), 0);
        due("its R is that of the empty word", x.gapRefusal(0), 6);
        // Now X 0 does 0, 1 or 2 and behind that 1: the later gap has the lesser R.
        x.pre(0, 3);
        x.pre(1, 3);
        x.pre(2, 3);
        x.hid();
        x.hid();
        x.define(0);
        Make.prefix(x, 3, 1, 7);
        due("the gap of kind 1", x.gap(0, 1), 0);
        due("its R is that of the empty word", x.gapRefusal(0), 7);
        // Now X 0 may stop at once, too.
        pushUnsure(x, 0, 3);
        x.define(0);
        due("the gap of kind 0", x.gap(0, 0), NONE);
        due("the gap of kind 1", x.gap(0, 1), 1);
        due("its R is that of the word 0", x.gapRefusal(0), 2);
    }

    private static void gapRefusalIsTheLeast() {
        CHECK.begin("16: the least R such that (u, R) is a failure of the system and not of X k");
        // The system is stop, and refuses all; X k has the sets without one event of the set k.
        CspRefiner x = new CspRefiner();
        for (int set = 1; set <= 6; set++) {
            hidden(x, set, set);
        }
        Make.run(x, 7);
        x.system(0, 0, 7);
        int[] least = {NONE, 1, 2, 3, 4, 5, 6, 1};
        for (int k = 0; k < 8; k++) {
            due("stop towards X " + k, x.gapRefusal(k), least[k]);
        }
        // The system refuses the sets without 0; of these the least that holds all of the set k.
        Make.prefix(x, 0, 0, 7);
        int[] leastOfPre0 = {NONE, NONE, 2, NONE, 4, NONE, 6, 2};
        for (int k = 0; k < 8; k++) {
            due("pre 0 towards X " + k, x.gapRefusal(k), leastOfPre0[k]);
            due("its word", x.gap(k, 1), leastOfPre0[k] == NONE ? NONE : 0);
        }
    }

    // X 0 alone, that is one choice, towards X 1, another one; behind each event they are alike.
    private static void searchesOfAnyTwoChoices() {
        CHECK.begin("15, 16, 18, 19: the failures behind the empty word, any two choices");
        for (Make.Choice m : Make.choices()) {
            for (Make.Choice n : Make.choices()) {
                CspRefiner x = new CspRefiner();
                Make.run(x, 7);
                Make.push(x, m, 7);
                x.define(0);
                Make.push(x, n, 7);
                x.define(1);
                x.system(0, 7, 7);
                String told = m.offers() + " towards " + n.offers();
                int excess = m.refusals() & ~n.refusals();
                int trace = leastCode(m.events() & ~n.events());
                due("gap 0 of " + told, x.gap(1, 0), trace);
                due("gap 1 of " + told, x.gap(1, 1), excess != 0 ? 0 : trace);
                int least = excess != 0 ? Integer.numberOfTrailingZeros(excess) : trace == NONE ? NONE : 0;
                due("gapRefusal of " + told, x.gapRefusal(1), least);
                due("deadlock of " + told, x.deadlock(), (m.refusals() >> 7) % 2 == 1 ? 0 : NONE);
                due("unsure of " + told, x.unsure(), leastCode(m.events() & refusedAlone(m)));
            }
        }
    }

    private static int leastCode(int events) {
        return events == 0 ? NONE : Integer.numberOfTrailingZeros(events) + 1;
    }

    private static int refusedAlone(Make.Choice choice) {
        int events = 0;
        for (int e = 0; e < 3; e++) {
            events |= (choice.refusals() >> (1 << e)) % 2 == 1 ? 1 << e : 0;
        }
        return events;
    }

    private static void gapRefusalArguments() {
        CHECK.begin("16: BAD_ARG if k is not 0 to 7");
        CspRefiner x = new CspRefiner();
        for (int wrong : Make.outside(7)) {
            due("no gap, k = " + wrong, x.gapRefusal(wrong), BAD_ARG);
        }
        Make.prefix(x, 0, 0, 0);
        for (int wrong : Make.outside(7)) {
            due("a gap, k = " + wrong, x.gapRefusal(wrong), BAD_ARG);
        }
        due("k = 0", x.gapRefusal(0), NONE);
        due("k = 7", x.gapRefusal(7), 0);
        for (int length = 0; length <= 4; length++) {
            TWINS.refused("k = -1", Make.busy(2, length), y -> y.gapRefusal(-1), BAD_ARG);
            TWINS.refused("k = 8", Make.busy(2, length), y -> y.gapRefusal(8), BAD_ARG);
        }
    }

    private static void gapRefusalNone() {
        CHECK.begin("16: NONE if there is no gap");
        CspRefiner x = new CspRefiner();
        for (int k = 0; k < 8; k++) {
            due("new", x.gapRefusal(k), NONE);
        }
        Make.busyNames(x);
        for (int k = 0; k < 8; k++) {
            x.system(k, Make.BUSY_RUN, 7);
            due("towards itself", x.gapRefusal(k), NONE);
            boolean gap = x.gap((k + 1) % 8, 1) != NONE;
            due("none if and only if no gap", x.gapRefusal((k + 1) % 8) != NONE ? 1 : 0, gap ? 1 : 0);
        }
    }

    // ---- Promise 17

    private static void refinedFrom0To8() {
        CHECK.begin("17: How many of the eight X k have no gap of this kind towards them");
        for (int n = 1; n <= 8; n++) {
            CspRefiner up = new CspRefiner();
            CspRefiner down = new CspRefiner();
            for (int k = 0; k < n; k++) {
                Make.prefix(up, k, 1, k);
                Make.prefix(down, 7 - k, 1, 7 - k);
            }
            down.system(7, 7, 7);
            for (int kind = 0; kind <= 1; kind++) {
                due(n + " from the first, kind " + kind, up.refined(kind), n);
                due(n + " from the last, kind " + kind, down.refined(kind), n);
            }
        }
        CspRefiner x = new CspRefiner();
        Make.prefix(x, 0, 0, 7);
        Make.prefix(x, 1, 1, 7);
        x.system(0, 1, 0);
        due("none, kind 0", x.refined(0), 0);
        due("none, kind 1", x.refined(1), 0);
    }

    private static void refinedByKind() {
        CHECK.begin("17: no gap of this kind");
        for (int n = 0; n <= 7; n++) {
            CspRefiner x = new CspRefiner();
            for (int k = 7; k > 7 - n; k--) {
                Make.prefix(x, k, k % 3, k);
            }
            due("stop, kind 0", x.refined(0), 8);
            due("stop, kind 1", x.refined(1), 8 - n);
        }
        // A gap behind 4 events counts.
        CspRefiner x = new CspRefiner();
        Make.chain(x, 0, 4, 0);
        Make.prefix(x, 7, 0, 7);
        due("kind 0: X 0 and X 7", x.refined(0), 2);
        due("kind 1: X 0", x.refined(1), 1);
        x.system(7, 7, 7);
        due("kind 0: X 0 and X 7", x.refined(0), 2);
        due("kind 1: X 7 and X 0, that may do more", x.refined(1), 2);
    }

    private static void refinedArguments() {
        CHECK.begin("17: BAD_ARG if kind is not 0 or 1");
        CspRefiner x = new CspRefiner();
        for (int wrong : Make.outside(1)) {
            due("kind = " + wrong, x.refined(wrong), BAD_ARG);
        }
        for (int kind = 2; kind <= 7; kind++) {
            due("kind = " + kind, x.refined(kind), BAD_ARG);
        }
        due("kind = 0", x.refined(0), 8);
        due("kind = 1", x.refined(1), 8);
        for (int length = 0; length <= 4; length++) {
            TWINS.refused("kind = -1", Make.busy(2, length), y -> y.refined(-1), BAD_ARG);
            TWINS.refused("kind = 2", Make.busy(2, length), y -> y.refined(2), BAD_ARG);
        }
    }

    // ---- Promise 18

    private static void deadlockFirst() {
        CHECK.begin("18: The code of the first word u (in the order)");
        // X 0 stops behind 2, behind 1 1 and behind 1 0.
        CspRefiner x = new CspRefiner();
        Make.run(x, 6);
        Make.offerAll(x, 0, 6, 1, 7);
        Make.offerAll(x, 1, 7, 7, 6);
        due("2 first", x.deadlock(), Make.codeOf(2));
        Make.offerAll(x, 0, 6, 1, 6);
        due("then 1 0", x.deadlock(), Make.codeOf(1, 0));
        Make.offerAll(x, 1, 6, 7, 6);
        due("then 1 1", x.deadlock(), Make.codeOf(1, 1));
        Make.stop(x, 0);
        due("the empty word first of all", x.deadlock(), 0);
    }

    private static void deadlockIsAllAtOnce() {
        CHECK.begin("18: such that (u, 7) is a failure of the system");
        for (int set = 1; set <= 7; set++) {
            CspRefiner x = new CspRefiner();
            Make.run(x, 7);
            hidden(x, 0, set);
            x.system(0, 7, 7);
            due("hidden " + set + " refuses not all", x.deadlock(), NONE);
            int two = set & (set - 1);
            x.system(0, 0, 7);
            due("two sides with hidden " + set, x.deadlock(), two == 0 ? NONE : 0);
            x.system(0, 0, 0);
            due("two sides apart", x.deadlock(), NONE);
        }
        CspRefiner x = new CspRefiner();
        Make.prefix(x, 1, 0, 1);
        Make.prefix(x, 2, 1, 2);
        for (int shared = 0; shared < 8; shared++) {
            x.system(1, 2, shared);
            due("0 beside 1 with A = " + shared, x.deadlock(), (shared & 3) == 3 ? 0 : NONE);
        }
    }

    private static void deadlockAtEachLength() {
        CHECK.begin("18: behind 0 to 4 events, not behind 5");
        for (int n = 0; n <= 5; n++) {
            CspRefiner x = new CspRefiner();
            Make.chain(x, 0, n, 0);
            due("behind " + n, x.deadlock(), n == 5 ? NONE : zeros(n));
        }
    }

    private static void deadlockNone() {
        CHECK.begin("18: NONE if there is none");
        CspRefiner x = new CspRefiner();
        due("new", x.deadlock(), 0);
        Make.prefix(x, 0, 2, 0);
        due("one event for ever", x.deadlock(), NONE);
        Make.run(x, 0);
        due("all events for ever", x.deadlock(), NONE);
        Make.stop(x, 0);
        due("stop", x.deadlock(), 0);
    }

    // ---- Promise 19

    private static void unsureFirst() {
        CHECK.begin("19: The code of the first trace (in the order)");
        // X 7 does all and is sure. X 1 is sure of nothing.
        CspRefiner x = new CspRefiner();
        Make.run(x, 7);
        pushUnsure(x, 0, 7);
        pushUnsure(x, 1, 7);
        x.ext();
        pushUnsure(x, 2, 7);
        x.ext();
        x.define(1);
        x.system(1, 7, 7);
        due("0 first", x.unsure(), Make.codeOf(0));
        Make.offerAll(x, 0, 7, 7, 1);
        x.system(0, 7, 7);
        due("2 0", x.unsure(), Make.codeOf(2, 0));
        Make.offerAll(x, 0, 7, 1, 1);
        due("1 0 before 2 0", x.unsure(), Make.codeOf(1, 0));
        pushUnsure(x, 2, 7);
        x.pre(0, 1);
        x.pre(1, 1);
        x.ext();
        x.ext();
        x.define(0);
        due("2 before 0 0", x.unsure(), Make.codeOf(2));
        pushUnsure(x, 2, 7);
        pushUnsure(x, 1, 7);
        x.ext();
        x.pre(0, 1);
        x.ext();
        x.define(0);
        due("1 before 2", x.unsure(), Make.codeOf(1));
    }

    private static void unsureIsATrace() {
        CHECK.begin("19: trace of the system that is a word u followed by an event a");
        for (int a = 0; a <= 2; a++) {
            // All but a is refused, but none of it is a trace.
            CspRefiner x = new CspRefiner();
            Make.prefix(x, 0, a, 0);
            due("refused, and never done", x.unsure(), NONE);
            pushUnsure(x, a, 0);
            x.define(0);
            due("refused, and done", x.unsure(), a + 1);
        }
        CspRefiner x = new CspRefiner();
        due("stop refuses all, and has no trace", x.unsure(), NONE);
    }

    // X 0 may refuse a but not the two others, which it also does.
    private static void unsureAloneIsTheEvent() {
        CHECK.begin("19: where (u, R) with R having the event a alone is also a failure");
        for (int a = 0; a <= 2; a++) {
            CspRefiner x = new CspRefiner();
            Make.run(x, 7);
            pushUnsure(x, a, 7);
            x.pre((a + 1) % 3, 7);
            x.ext();
            x.pre((a + 2) % 3, 7);
            x.ext();
            x.define(0);
            x.system(0, 7, 7);
            due("offers", x.offers(), 7);
            due("refusals", Make.refusals(x), Make.maskOf(0, 1 << a));
            due("unsure", x.unsure(), a + 1);
        }
        // Two sides: 0 by the first leads to another state than 0 by the second.
        CspRefiner x = new CspRefiner();
        Make.prefix(x, 0, 0, 1);
        Make.prefix(x, 1, 1, 7);
        Make.prefix(x, 2, 0, 3);
        Make.prefix(x, 3, 2, 7);
        x.system(0, 2, 0);
        due("0 1 by the parting", x.unsure(), Make.codeOf(0, 1));
        x.system(0, 2, 1);
        due("together they are sure", x.unsure(), NONE);
    }

    private static void unsureAtEachLength() {
        CHECK.begin("19: of 1 to 4 events, not of 5");
        for (int n = 0; n <= 4; n++) {
            CspRefiner x = new CspRefiner();
            Make.chain(x, 0, n, 0);
            pushUnsure(x, 0, 7);
            x.define(n);
            due("of " + (n + 1), x.unsure(), n == 4 ? NONE : zeros(n + 1));
        }
    }

    private static void unsureNone() {
        CHECK.begin("19: NONE if there is none");
        CspRefiner x = new CspRefiner();
        due("new", x.unsure(), NONE);
        Make.run(x, 0);
        for (int shared = 0; shared < 8; shared++) {
            x.system(0, 0, shared);
            due("all with A = " + shared, x.unsure(), NONE);
        }
        Make.chain(x, 0, 4, 2);
        due("once each", x.unsure(), NONE);
        Make.ext(x, 0, 0, 0, 1, 0);
        x.system(0, 0, 7);
        due("offered", x.unsure(), NONE);
        Make.hid(x, 0, 0, 0, 1, 0);
        due("hidden", x.unsure(), 1);
    }

    // ---- Promises 14 to 19

    private static void noneOfThemLooksAtTheLog() {
        CHECK.begin("14 to 19: of the system, not of the log");
        CspRefiner x = new CspRefiner();
        Make.busy(0, 0).accept(x);
        long[] empty = answers(x);
        for (int length = 1; length <= 4; length++) {
            x.feed(Make.BUSY_LOG[length - 1]);
            long[] now = answers(x);
            for (int n = 0; n < empty.length; n++) {
                due("answer " + n + " on " + length, now[n], empty[n]);
            }
        }
    }

    private static long[] answers(CspRefiner x) {
        long[] all = new long[33];
        int n = 0;
        for (int len = 0; len <= 4; len++) {
            all[n++] = x.traces(len);
        }
        for (int k = 0; k < 8; k++) {
            all[n++] = x.gap(k, 0);
            all[n++] = x.gap(k, 1);
            all[n++] = x.gapRefusal(k);
        }
        all[n++] = x.refined(0);
        all[n++] = x.refined(1);
        all[n++] = x.deadlock();
        all[n] = x.unsure();
        return all;
    }
}

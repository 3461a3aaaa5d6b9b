import java.util.function.Consumer;

/** The boundary cases that the promises 8 to 13 name, each sentence by a test of its own. */
public final class SystemBoundaryTest {
    private static final int BAD_ARG = Make.BAD_ARG;
    private static final int FULL = Make.FULL;
    private static final int NONE = Make.NONE;

    private static final Check CHECK = new Check();
    private static final Twins TWINS = new Twins(CHECK);

    public static void main(String[] args) {
        systemArguments();
        systemTakesAll();
        systemEmptiesTheLog();
        systemLeavesTheRest();
        feedArguments();
        feedFull();
        feedNone();
        feedArgumentsFirst();
        feedFullBeforeNone();
        feedAnswersTheLength();
        feedFollowsTheWholeLog();
        feedLeavesTheRest();
        undoTakesTheLast();
        undoOnEmpty();
        logIsTheCode();
        offersIsTheSet();
        offersAfter4();
        refusesTheLog();
        refusesArguments();
        CHECK.end("SystemBoundaryTest");
    }

    private static void due(String what, long got, long want) {
        CHECK.due(what, got, want);
    }

    private static void due(String what, boolean got, boolean want) {
        CHECK.due(what, got, want);
    }

    // ---- Promise 8

    private static void systemArguments() {
        CHECK.begin("8: BAD_ARG if i or j is not 0 to 7 or A not 0 to 7");
        CspRefiner x = new CspRefiner();
        for (int wrong : Make.outside(7)) {
            due("i = " + wrong, x.system(wrong, 0, 0), BAD_ARG);
            due("i = " + wrong, x.system(wrong, 7, 7), BAD_ARG);
            due("j = " + wrong, x.system(0, wrong, 0), BAD_ARG);
            due("j = " + wrong, x.system(7, wrong, 7), BAD_ARG);
            due("A = " + wrong, x.system(0, 0, wrong), BAD_ARG);
            due("A = " + wrong, x.system(7, 7, wrong), BAD_ARG);
            due("all = " + wrong, x.system(wrong, wrong, wrong), BAD_ARG);
        }
        int[] edges = {-1, 0, 7, 8};
        for (int i : edges) {
            for (int j : edges) {
                for (int shared : edges) {
                    boolean good = i % 7 == 0 && j % 7 == 0 && shared % 7 == 0;
                    due("system " + i + " " + j + " " + shared, x.system(i, j, shared), good ? 0 : BAD_ARG);
                }
            }
        }
        for (int length = 0; length <= 4; length++) {
            Consumer<CspRefiner> made = Make.busy(3, length);
            for (int wrong : new int[] {-1, 8}) {
                TWINS.refused("i = " + wrong, made, y -> y.system(wrong, 4, 7), BAD_ARG);
                TWINS.refused("j = " + wrong, made, y -> y.system(4, wrong, 7), BAD_ARG);
                TWINS.refused("A = " + wrong, made, y -> y.system(4, 2, wrong), BAD_ARG);
                TWINS.refused("i and j = " + wrong, made, y -> y.system(wrong, wrong, 7), BAD_ARG);
            }
        }
    }

    // X i does 0 and X j does 1, the other names nothing: what is offered tells i, j and A.
    private static void systemTakesAll() {
        CHECK.begin("8: Makes i, j, A the system; otherwise 0");
        for (int i = 0; i < 8; i++) {
            for (int j = 0; j < 8; j++) {
                CspRefiner x = new CspRefiner();
                x.pre(0, (i + 1) % 8);
                x.define(i);
                if (i != j) {
                    Make.prefix(x, j, 1, (j + 1) % 8);
                }
                for (int shared = 0; shared < 8; shared++) {
                    due("system " + i + " " + j + " " + shared, x.system(i, j, shared), 0);
                    int first = (shared & 1) == 0 || i == j ? 1 : 0;
                    int second = (shared & 2) == 0 && i != j ? 2 : 0;
                    due("offers", x.offers(), first + second);
                }
            }
        }
    }

    private static void systemEmptiesTheLog() {
        CHECK.begin("8: the log becomes empty");
        for (int length = 0; length <= 4; length++) {
            int[][] systems = {{3, 5, 2}, {5, 3, 2}, {0, 0, 7}, {7, 7, 7}, {3, 5, 0}, {6, 6, 0}};
            for (int[] s : systems) {
                CspRefiner x = new CspRefiner();
                Make.busy(2, length).accept(x);
                due("log before", x.log(), Make.BUSY_CODES[length]);
                due("system", x.system(s[0], s[1], s[2]), 0);
                due("log", x.log(), 0);
                due("undo", x.undo(), NONE);
            }
        }
    }

    private static void systemLeavesTheRest() {
        CHECK.begin("8: system changes the system and the log alone");
        for (int length = 0; length <= 4; length++) {
            Consumer<CspRefiner> made = Make.busy(4, length);
            TWINS.same("another system", made, made.andThen(x -> x.system(4, 2, 0)), Twins.STACK, Twins.NAMES);
            TWINS.same("and back", Make.busy(4, 0), made.andThen(x -> {
                x.system(4, 2, 0);
                x.system(7, 7, 7);
                x.system(3, 5, 2);
            }), Twins.ALL);
        }
    }

    // ---- Promise 9

    private static void feedArguments() {
        CHECK.begin("9: a not 0 to 2 answers BAD_ARG");
        CspRefiner x = new CspRefiner();
        Make.run(x, 0);
        for (int wrong : Make.outside(2)) {
            due("a = " + wrong, x.feed(wrong), BAD_ARG);
        }
        for (int a = 3; a <= 8; a++) {
            due("a = " + a, x.feed(a), BAD_ARG);
        }
        due("log", x.log(), 0);
        for (int a = 0; a <= 2; a++) {
            due("a = " + a, x.feed(a), a + 1);
        }
        for (int length = 0; length <= 4; length++) {
            TWINS.refused("feed -1", Make.busy(2, length), y -> y.feed(-1), BAD_ARG);
            TWINS.refused("feed 3", Make.busy(2, length), y -> y.feed(3), BAD_ARG);
        }
    }

    private static void feedFull() {
        CHECK.begin("9: the log has 4 events answers FULL");
        for (int a = 0; a <= 2; a++) {
            int event = a;
            for (int depth = 0; depth <= 6; depth += 3) {
                TWINS.refused("feed " + a, Make.busy(depth, 4), x -> x.feed(event), FULL);
            }
            CspRefiner x = new CspRefiner();
            Make.run(x, 0);
            for (int n = 1; n <= 4; n++) {
                due("feed on " + (n - 1), x.feed(a), n);
            }
            due("feed on 4", x.feed(a), FULL);
            due("feed on 4 again", x.feed(a), FULL);
            due("log", x.log(), Make.codeOf(a, a, a, a));
            due("undo", x.undo(), a);
            due("feed on 3", x.feed((a + 1) % 3), 4);
            due("feed on 4", x.feed(a), FULL);
            due("log", x.log(), Make.codeOf(a, a, a, (a + 1) % 3));
        }
    }

    // X k does k % 3 and then is X k + 1, up to X 4: at each length one event alone goes on.
    private static void feedNone() {
        CHECK.begin("9: the log followed by a is not a trace of the system answers NONE");
        for (int length = 0; length <= 3; length++) {
            for (int a = 0; a <= 2; a++) {
                int event = a;
                int events = length;
                Consumer<CspRefiner> made = x -> countingTo4(x, events);
                boolean goesOn = a == length % 3;
                if (goesOn) {
                    CspRefiner x = new CspRefiner();
                    made.accept(x);
                    due("feed " + a + " on " + length, x.feed(a), length + 1);
                } else {
                    TWINS.refused("feed " + a + " on " + length, made, x -> x.feed(event), NONE);
                }
            }
        }
        for (int a = 0; a <= 2; a++) {
            int event = a;
            TWINS.refused("feed on a new object", x -> { }, x -> x.feed(event), NONE);
        }
    }

    private static void countingTo4(CspRefiner x, int length) {
        for (int k = 0; k < 4; k++) {
            Make.prefix(x, k, k % 3, k + 1);
        }
        Make.run(x, Make.BUSY_RUN);
        Make.busyStack(x, 2);
        for (int n = 0; n < length; n++) {
            due("feed", x.feed(n % 3), n + 1);
        }
    }

    private static void feedArgumentsFirst() {
        CHECK.begin("9: Tested in this order: BAD_ARG before FULL and before NONE");
        CspRefiner x = new CspRefiner();
        for (int wrong : Make.outside(2)) {
            due("a = " + wrong + " and nothing goes on", x.feed(wrong), BAD_ARG);
        }
        due("a = 2 and nothing goes on", x.feed(2), NONE);
        Make.run(x, 0);
        for (int n = 0; n < 4; n++) {
            x.feed(n % 3);
        }
        for (int wrong : Make.outside(2)) {
            due("a = " + wrong + " on 4", x.feed(wrong), BAD_ARG);
        }
        due("a = 2 on 4", x.feed(2), FULL);
        due("log", x.log(), Make.codeOf(0, 1, 2, 0));
    }

    private static void feedFullBeforeNone() {
        CHECK.begin("9: Tested in this order: FULL before NONE");
        // X 0 does the event 1 for just 4 times.
        CspRefiner x = new CspRefiner();
        Make.chain(x, 0, 4, 1);
        for (int n = 1; n <= 4; n++) {
            due("2 is no trace", x.feed(2), NONE);
            due("feed", x.feed(1), n);
        }
        for (int a = 0; a <= 2; a++) {
            due("the process stops at 4", x.feed(a), FULL);
        }
        due("undo", x.undo(), 1);
        due("2 is no trace", x.feed(2), NONE);
    }

    private static void feedAnswersTheLength() {
        CHECK.begin("9: Otherwise answers the new length of the log");
        CspRefiner x = new CspRefiner();
        Make.run(x, 0);
        int[] events = {2, 2, 0, 1};
        for (int n = 0; n < 4; n++) {
            due("feed", x.feed(events[n]), n + 1);
        }
        due("log", x.log(), Make.codeOf(events));
    }

    // Behind 0 0 only 1 goes on and behind 1 0 only 2: the last event does not tell.
    private static void feedFollowsTheWholeLog() {
        CHECK.begin("9: the log followed by a, not its last event alone");
        CspRefiner x = new CspRefiner();
        Make.ext(x, 0, 0, 1, 1, 2);
        Make.prefix(x, 1, 0, 3);
        Make.prefix(x, 2, 0, 4);
        Make.prefix(x, 3, 1, 7);
        Make.prefix(x, 4, 2, 7);
        x.feed(0);
        x.feed(0);
        due("0 0 2", x.feed(2), NONE);
        due("0 0 1", x.feed(1), 3);
        x.system(0, 0, 7);
        x.feed(1);
        x.feed(0);
        due("1 0 1", x.feed(1), NONE);
        due("1 0 2", x.feed(2), 3);
    }

    private static void feedLeavesTheRest() {
        CHECK.begin("9: feed changes the log alone");
        for (int length = 0; length <= 3; length++) {
            int events = length;
            Consumer<CspRefiner> made = Make.busy(4, length);
            Consumer<CspRefiner> fed = made.andThen(x -> x.feed(Make.BUSY_LOG[events]));
            TWINS.same("feed", made, fed, Twins.STACK, Twins.NAMES);
            TWINS.same("feed and undo", made, fed.andThen(CspRefiner::undo), Twins.ALL);
        }
    }

    // ---- Promise 10

    private static void undoTakesTheLast() {
        CHECK.begin("10: Takes the last event off the log and answers it");
        CspRefiner x = new CspRefiner();
        Make.run(x, 0);
        for (int a = 0; a <= 2; a++) {
            due("feed", x.feed(a), 1);
            due("undo of 1 event", x.undo(), a);
            due("log", x.log(), 0);
            due("undo of 0 events", x.undo(), NONE);
        }
        int[] events = {1, 2, 0, 2};
        for (int e : events) {
            x.feed(e);
        }
        due("FULL leaves it", x.feed(0), FULL);
        int[] codes = {0, Make.codeOf(1), Make.codeOf(1, 2), Make.codeOf(1, 2, 0)};
        for (int n = 3; n >= 0; n--) {
            due("undo", x.undo(), events[n]);
            due("log", x.log(), codes[n]);
        }
        due("undo", x.undo(), NONE);
    }

    private static void undoOnEmpty() {
        CHECK.begin("10: NONE if the log is empty");
        TWINS.refused("undo, new", x -> { }, CspRefiner::undo, NONE);
        for (int depth = 0; depth <= 6; depth++) {
            TWINS.refused("undo on empty", Make.busy(depth, 0), CspRefiner::undo, NONE);
        }
        CspRefiner x = new CspRefiner();
        Make.run(x, 0);
        due("on 0", x.undo(), NONE);
        x.feed(0);
        due("on 1", x.undo(), 0);
        due("on 0", x.undo(), NONE);
        due("on 0 again", x.undo(), NONE);
        due("log", x.log(), 0);
        due("feed goes on", x.feed(2), 1);
    }

    // ---- Promise 11

    private static void logIsTheCode() {
        CHECK.begin("11: The code of the log");
        CspRefiner x = new CspRefiner();
        due("new", x.log(), 0);
        for (int word = 0; word < 81; word++) {
            if (word % 27 == 0) {
                x = new CspRefiner();
                Make.run(x, 0);
            }
            x.system(0, 0, 7);
            int[] events = {word / 27, word / 9 % 3, word / 3 % 3, word % 3};
            int code = 0;
            due("empty", x.log(), 0);
            for (int e : events) {
                x.feed(e);
                code = code * 4 + e + 1;
                due("log", x.log(), code);
            }
        }
        due("the greatest", x.log(), 255);
    }

    // ---- Promise 12

    private static void offersIsTheSet() {
        CHECK.begin("12: The set of the events a such that the log followed by a is a trace");
        for (int length = 0; length <= 3; length++) {
            for (int set = 0; set < 8; set++) {
                CspRefiner x = new CspRefiner();
                Make.chain(x, 0, length, 1);
                x.stop();
                for (int e = 0; e < 3; e++) {
                    if ((set >> e) % 2 == 1) {
                        x.pre(e, 7);
                        // Offered or hidden, it is a trace.
                        due("join", e == 1 ? x.hid() : x.ext(), 1);
                    }
                }
                x.define(length);
                for (int n = 0; n < length; n++) {
                    due("on " + n, x.offers(), 2);
                    x.feed(1);
                }
                due("on " + length, x.offers(), set);
                for (int e = 0; e < 3; e++) {
                    boolean offered = (set >> e) % 2 == 1;
                    due("feed " + e, x.feed(e), offered ? length + 1 : NONE);
                    if (offered) {
                        due("undo", x.undo(), e);
                    }
                }
            }
        }
    }

    private static void offersAfter4() {
        CHECK.begin("12: 0 if the log has 4 events");
        for (int a = 0; a <= 2; a++) {
            CspRefiner x = new CspRefiner();
            Make.run(x, 0);
            for (int n = 0; n < 4; n++) {
                due("on " + n, x.offers(), 7);
                x.feed(a);
            }
            due("on 4", x.offers(), 0);
            x.feed(a);
            due("on 4 still", x.offers(), 0);
            x.undo();
            due("on 3", x.offers(), 7);
        }
    }

    // ---- Promise 13

    private static void refusesTheLog() {
        CHECK.begin("13: Whether (log, R) is a failure of the system");
        // X 7 does all, so the system is X 0: behind n events 0 it may refuse as X n does.
        CspRefiner x = new CspRefiner();
        Make.run(x, 7);
        Make.hid(x, 0, 0, 1, 1, 7);
        Make.ext(x, 1, 0, 2, 2, 7);
        x.pre(0, 3);
        x.stop();
        x.hid();
        x.define(2);
        Make.prefix(x, 3, 0, 4);
        Make.ext(x, 4, 1, 0, 2, 0);
        x.system(0, 7, 7);
        int[] masks = {
            Make.maskOf(0, 1, 2, 4, 5, 6), Make.maskOf(0, 2), 255, Make.maskOf(0, 2, 4, 6), Make.maskOf(0, 1)};
        for (int n = 0; n <= 4; n++) {
            for (int r = 0; r <= 7; r++) {
                due("refuses " + r + " on " + n, x.refuses(r), (masks[n] >> r) % 2 == 1);
            }
            x.feed(0);
        }
        for (int n = 3; n >= 0; n--) {
            x.undo();
            due("back on " + n, Make.refusals(x), masks[n]);
        }
    }

    private static void refusesArguments() {
        CHECK.begin("13: false if R is not 0 to 7");
        CspRefiner x = new CspRefiner();
        for (int wrong : Make.outside(7)) {
            due("stop, R = " + wrong, x.refuses(wrong), false);
        }
        due("R = 0", x.refuses(0), true);
        due("R = 7", x.refuses(7), true);
        Make.run(x, 0);
        for (int wrong : Make.outside(7)) {
            due("run, R = " + wrong, x.refuses(wrong), false);
        }
        for (int length = 0; length <= 4; length++) {
            TWINS.refused("R = -1", Make.busy(2, length), y -> y.refuses(-1) ? 1 : 0, 0);
            TWINS.refused("R = 8", Make.busy(2, length), y -> y.refuses(8) ? 1 : 0, 0);
        }
    }
}

/** Each promise of the document by hand: ordinary inputs, the edges it names, wrong inputs. */
public final class PromiseTest {
    private static final int BAD_ARG = -1;
    private static final int FULL = -2;
    private static final int TOO_FEW = -3;
    private static final int NONE = -4;
    private static final int[] EXTREMES = {Integer.MIN_VALUE, -1, Integer.MAX_VALUE};

    private static final Check CHECK = new Check();

    public static void main(String[] args) {
        constants();
        newObject();
        stop();
        pre();
        ext();
        hid();
        depth();
        define();
        system();
        feed();
        undo();
        log();
        offers();
        refuses();
        traces();
        gap();
        gapRefusal();
        refined();
        deadlock();
        unsure();
        refusedCallsChangeNothing();
        longUse();
        CHECK.end("PromiseTest");
    }

    private static void due(String what, long got, long want) {
        CHECK.due(what, got, want);
    }

    private static void due(String what, boolean got, boolean want) {
        CHECK.due(what, got, want);
    }

    private static void constants() {
        due("BAD_ARG", CspRefiner.BAD_ARG, BAD_ARG);
        due("FULL", CspRefiner.FULL, FULL);
        due("TOO_FEW", CspRefiner.TOO_FEW, TOO_FEW);
        due("NONE", CspRefiner.NONE, NONE);
    }

    private static void newObject() {
        CspRefiner x = new CspRefiner();
        due("1 depth", x.depth(), 0);
        due("1 log", x.log(), 0);
        due("1 undo", x.undo(), NONE);
        due("1 offers", x.offers(), 0);
        due("1 refusals", Make.refusals(x), 255);
        due("1 traces 0", x.traces(0), 1);
        due("1 traces 1", x.traces(1), 0);
        due("1 refined 0", x.refined(0), 8);
        due("1 refined 1", x.refined(1), 8);
        for (int k = 0; k < 8; k++) {
            due("1 system k k", x.system(k, k, 0), 0);
            due("1 X k is stop", x.traces(1), 0);
            due("1 X k refuses all", x.refuses(7), true);
        }
        startIsNameZeroOnBothSides();
    }

    // With i = j = 0 and A = 7 the system does just what X 0 does; any other
    // start would have more traces, fewer traces or other refusals.
    private static void startIsNameZeroOnBothSides() {
        CspRefiner x = new CspRefiner();
        Make.hid(x, 0, 0, 1, 1, 2);
        Make.prefix(x, 1, 2, 3);
        due("1 traces 1", x.traces(1), 2);
        due("1 traces 2", x.traces(2), 1);
        due("1 traces 3", x.traces(3), 0);
        due("1 refuses 7", x.refuses(7), true);
        due("1 gap 0 0", x.gap(0, 0), NONE);
    }

    private static void stop() {
        CspRefiner x = new CspRefiner();
        for (int n = 1; n <= 6; n++) {
            due("2 stop", x.stop(), n);
        }
        due("2 stop on 6", x.stop(), FULL);
        due("2 depth", x.depth(), 6);
        x = new CspRefiner();
        Make.prefix(x, 0, 0, 0);
        due("2 before", x.offers(), 1);
        x.stop();
        x.define(0);
        due("2 offers", x.offers(), 0);
        due("2 refusals", Make.refusals(x), 255);
    }

    private static void pre() {
        CspRefiner x = new CspRefiner();
        for (int wrong : EXTREMES) {
            due("3 wrong event", x.pre(wrong, 0), BAD_ARG);
            due("3 wrong name", x.pre(0, wrong), BAD_ARG);
        }
        due("3 pre 3 0", x.pre(3, 0), BAD_ARG);
        due("3 pre 0 8", x.pre(0, 8), BAD_ARG);
        due("3 depth", x.depth(), 0);
        for (int n = 1; n <= 6; n++) {
            due("3 pre", x.pre(2, 7), n);
        }
        due("3 pre on 6", x.pre(2, 7), FULL);
        due("3 bad event on 6", x.pre(3, 7), BAD_ARG);
        due("3 bad name on 6", x.pre(2, 8), BAD_ARG);
        int[] without = {Make.maskOf(0, 2, 4, 6), Make.maskOf(0, 1, 4, 5), Make.maskOf(0, 1, 2, 3)};
        for (int a = 0; a < 3; a++) {
            for (int k = 1; k < 8; k++) {
                prefixOf(a, k, without[a]);
            }
        }
    }

    private static void prefixOf(int a, int k, int refusals) {
        CspRefiner x = new CspRefiner();
        Make.prefix(x, 0, a, k);
        Make.prefix(x, k, (a + 1) % 3, 0);
        due("3 offers", x.offers(), 1 << a);
        due("3 refusals", Make.refusals(x), refusals);
        due("3 feed", x.feed(a), 1);
        due("3 goes on as X k", x.offers(), 1 << ((a + 1) % 3));
        due("3 feed", x.feed((a + 1) % 3), 2);
        due("3 comes back", x.offers(), 1 << a);
    }

    private static void ext() {
        CspRefiner x = new CspRefiner();
        due("4 ext on 0", x.ext(), TOO_FEW);
        x.stop();
        due("4 ext on 1", x.ext(), TOO_FEW);
        due("4 depth", x.depth(), 1);
        x.stop();
        due("4 ext on 2", x.ext(), 1);

        x = new CspRefiner();
        Make.ext(x, 0, 0, 1, 1, 2);
        Make.prefix(x, 1, 2, 3);
        due("4 offers", x.offers(), 3);
        due("4 refusals", Make.refusals(x), Make.maskOf(0, 4));
        x.feed(0);
        due("4 after 0", x.offers(), 4);
        x.undo();
        x.feed(1);
        due("4 after 1", Make.refusals(x), 255);

        extWithOneEvent();
        extTakesTheTopmost();
        extKeepsFailuresBehindEvents();
    }

    private static void extWithOneEvent() {
        CspRefiner x = new CspRefiner();
        Make.ext(x, 0, 0, 1, 0, 2);
        Make.prefix(x, 1, 1, 3);
        Make.prefix(x, 2, 2, 3);
        due("4 same event: refusals", Make.refusals(x), Make.maskOf(0, 2, 4, 6));
        x.feed(0);
        due("4 same event: offers", x.offers(), 6);
        due("4 same event: refuses 2", x.refuses(2), true);
        due("4 same event: refuses 4", x.refuses(4), true);
        // X 0 on both sides, both share all: one may be at X 1, the other at X 2.
        due("4 same event: refuses 7", x.refuses(7), true);
    }

    private static void extTakesTheTopmost() {
        CspRefiner x = new CspRefiner();
        x.pre(0, 7);
        x.pre(1, 7);
        x.pre(2, 7);
        due("4 on 3", x.ext(), 2);
        due("4 define", x.define(0), 1);
        due("4 the upper two", x.offers(), 6);
        due("4 define", x.define(0), 0);
        due("4 the lowest", x.offers(), 1);
    }

    private static void extKeepsFailuresBehindEvents() {
        CspRefiner x = new CspRefiner();
        x.stop();
        x.pre(0, 0);
        x.ext();
        x.define(0);
        due("4 ext stop, pre: not refused", x.refuses(1), false);
        due("4 ext stop, pre: offers", x.offers(), 1);
        due("4 ext stop, pre: for ever", x.traces(4), 1);
    }

    private static void hid() {
        CspRefiner x = new CspRefiner();
        due("5 hid on 0", x.hid(), TOO_FEW);
        x.stop();
        due("5 hid on 1", x.hid(), TOO_FEW);
        due("5 depth", x.depth(), 1);
        x.stop();
        due("5 hid on 2", x.hid(), 1);

        x = new CspRefiner();
        Make.hid(x, 0, 0, 1, 1, 2);
        Make.prefix(x, 1, 2, 3);
        x.system(0, 4, 0);
        due("5 offers", x.offers(), 3);
        due("5 refusals", Make.refusals(x), Make.maskOf(0, 1, 2, 4, 5, 6));
        x.feed(0);
        due("5 after 0", x.offers(), 4);
        x.undo();
        x.feed(1);
        due("5 after 1", Make.refusals(x), 255);

        x = new CspRefiner();
        x.pre(0, 7);
        x.pre(1, 7);
        x.pre(2, 7);
        due("5 on 3", x.hid(), 2);
        due("5 define", x.define(0), 1);
        due("5 the upper two", x.offers(), 6);
        due("5 define", x.define(0), 0);
        due("5 the lowest", x.offers(), 1);
        hidAndExtMixed();
    }

    private static void hidAndExtMixed() {
        CspRefiner x = new CspRefiner();
        x.pre(0, 7);
        x.stop();
        x.hid();
        x.pre(1, 7);
        x.ext();
        x.define(0);
        x.system(0, 7, 0);
        due("5 ext of hid", Make.refusals(x), Make.maskOf(0, 1, 4, 5));
        x.pre(0, 7);
        x.pre(1, 7);
        x.ext();
        x.stop();
        x.hid();
        x.define(0);
        due("5 hid of ext", Make.refusals(x), 255);
        due("5 hid of ext offers", x.offers(), 3);
    }

    private static void depth() {
        CspRefiner x = new CspRefiner();
        due("6 depth", x.depth(), 0);
        x.stop();
        due("6 depth", x.depth(), 1);
        x.pre(0, 0);
        due("6 depth", x.depth(), 2);
        x.pre(3, 0);
        due("6 depth", x.depth(), 2);
        x.ext();
        due("6 depth", x.depth(), 1);
        x.stop();
        x.hid();
        due("6 depth", x.depth(), 1);
        x.define(9);
        due("6 depth", x.depth(), 1);
        x.define(0);
        due("6 depth", x.depth(), 0);
    }

    private static void define() {
        CspRefiner x = new CspRefiner();
        due("7 empty", x.define(0), TOO_FEW);
        due("7 bad name, empty", x.define(8), BAD_ARG);
        for (int wrong : EXTREMES) {
            due("7 bad name", x.define(wrong), BAD_ARG);
        }
        x.stop();
        x.pre(1, 6);
        due("7 bad name", x.define(8), BAD_ARG);
        due("7 define 7", x.define(7), 1);
        x.system(7, 7, 7);
        due("7 the top", x.offers(), 2);
        due("7 define 6", x.define(6), 0);

        olderTermsSeeIt();
        logBecomesEmpty();
    }

    private static void olderTermsSeeIt() {
        CspRefiner x = new CspRefiner();
        Make.prefix(x, 0, 0, 1);
        x.pre(0, 1);
        due("7 traces before", x.traces(2), 0);
        Make.prefix(x, 1, 2, 1);
        due("7 depth", x.depth(), 1);
        due("7 X 0 sees X 1", x.traces(2), 1);
        x.define(2);
        x.system(2, 2, 7);
        due("7 a term from before on the stack", x.traces(4), 1);
        x.stop();
        x.define(1);
        due("7 X 1 is stop again", x.traces(2), 0);
        due("7 and X 2 still does 0", x.traces(1), 1);
    }

    private static void logBecomesEmpty() {
        CspRefiner x = new CspRefiner();
        Make.run(x, 0);
        x.feed(0);
        x.feed(1);
        x.define(0);
        due("7 refused define keeps the log", x.log(), 6);
        x.stop();
        x.define(8);
        due("7 bad define keeps the log", x.log(), 6);
        x.define(5);
        due("7 the log is empty", x.log(), 0);
        due("7 nothing to undo", x.undo(), NONE);
    }

    private static void system() {
        CspRefiner x = new CspRefiner();
        for (int wrong : EXTREMES) {
            due("8 bad i", x.system(wrong, 0, 0), BAD_ARG);
            due("8 bad j", x.system(0, wrong, 0), BAD_ARG);
            due("8 bad A", x.system(0, 0, wrong), BAD_ARG);
        }
        due("8 i = 8", x.system(8, 0, 0), BAD_ARG);
        due("8 j = 8", x.system(0, 8, 0), BAD_ARG);
        due("8 A = 8", x.system(0, 0, 8), BAD_ARG);
        due("8 the greatest", x.system(7, 7, 7), 0);

        // X 1 does 0 1 and X 3 does 0 2, each once.
        Make.prefix(x, 1, 0, 2);
        Make.prefix(x, 2, 1, 7);
        Make.prefix(x, 3, 0, 4);
        Make.prefix(x, 4, 2, 7);
        parallel(x, 0, new int[] {1, 1, 3, 4, 4});
        parallel(x, 1, new int[] {1, 1, 2, 2, 0});
        parallel(x, 2, new int[] {1, 1, 2, 2, 0});
        parallel(x, 4, new int[] {1, 1, 2, 2, 0});
        parallel(x, 7, new int[] {1, 1, 0, 0, 0});
        systemEmptiesTheLog();
        refusalsOutsideTheSharedAgree();
    }

    private static void parallel(CspRefiner x, int shared, int[] counts) {
        due("8 system", x.system(1, 3, shared), 0);
        for (int len = 0; len <= 4; len++) {
            due("8 traces " + len + " with A = " + shared, x.traces(len), counts[len]);
        }
    }

    private static void systemEmptiesTheLog() {
        CspRefiner x = new CspRefiner();
        Make.run(x, 0);
        x.feed(2);
        x.system(0, 0, 8);
        due("8 refused system keeps the log", x.log(), 3);
        x.system(0, 0, 7);
        due("8 the log is empty", x.log(), 0);
    }

    private static void refusalsOutsideTheSharedAgree() {
        CspRefiner x = new CspRefiner();
        Make.prefix(x, 1, 0, 7);
        Make.prefix(x, 2, 1, 7);
        x.system(1, 2, 0);
        due("8 A = 0", Make.refusals(x), Make.maskOf(0, 4));
        x.system(1, 2, 1);
        due("8 A = 1", Make.refusals(x), Make.maskOf(0, 1, 4, 5));
        x.system(1, 2, 2);
        due("8 A = 2", Make.refusals(x), Make.maskOf(0, 2, 4, 6));
        x.system(1, 2, 3);
        due("8 A = 3", Make.refusals(x), 255);
        x.system(1, 2, 4);
        due("8 A = 4", Make.refusals(x), Make.maskOf(0, 4));
    }

    private static void feed() {
        CspRefiner x = new CspRefiner();
        for (int wrong : EXTREMES) {
            due("9 bad event", x.feed(wrong), BAD_ARG);
        }
        due("9 event 3", x.feed(3), BAD_ARG);
        due("9 no trace", x.feed(0), NONE);
        due("9 log", x.log(), 0);
        Make.ext(x, 0, 0, 0, 2, 0);
        due("9 feed 0", x.feed(0), 1);
        due("9 no trace", x.feed(1), NONE);
        due("9 log", x.log(), 1);
        due("9 feed 2", x.feed(2), 2);
        due("9 feed 2", x.feed(2), 3);
        due("9 feed 0", x.feed(0), 4);
        due("9 full", x.feed(0), FULL);
        due("9 full before none", x.feed(1), FULL);
        due("9 bad event before full", x.feed(3), BAD_ARG);
        due("9 log", x.log(), ((1 * 4 + 3) * 4 + 3) * 4 + 1);
        x.system(0, 0, 7);
        for (int n = 1; n <= 4; n++) {
            due("9 feed 0", x.feed(0), n);
        }
        due("9 full at the first word of 4", x.feed(0), FULL);
        due("9 offers there", x.offers(), 0);
    }

    private static void undo() {
        CspRefiner x = new CspRefiner();
        due("10 empty", x.undo(), NONE);
        Make.run(x, 0);
        x.feed(2);
        x.feed(0);
        x.feed(1);
        x.feed(1);
        due("10 undo", x.undo(), 1);
        due("10 undo", x.undo(), 1);
        due("10 log", x.log(), 3 * 4 + 1);
        due("10 undo", x.undo(), 0);
        due("10 feed", x.feed(1), 2);
        due("10 undo", x.undo(), 1);
        due("10 undo", x.undo(), 2);
        due("10 log", x.log(), 0);
        due("10 empty", x.undo(), NONE);
    }

    private static void log() {
        for (int a = 0; a < 3; a++) {
            CspRefiner x = new CspRefiner();
            Make.run(x, 0);
            due("11 empty", x.log(), 0);
            for (int b = 0; b < 3; b++) {
                for (int c = 0; c < 3; c++) {
                    for (int d = 0; d < 3; d++) {
                        logOf(x, a, b, c, d);
                    }
                }
            }
        }
    }

    private static void logOf(CspRefiner x, int... events) {
        x.system(0, 0, 7);
        int code = 0;
        for (int e : events) {
            x.feed(e);
            code = code * 4 + e + 1;
            due("11 log", x.log(), code);
        }
    }

    private static void offers() {
        CspRefiner x = new CspRefiner();
        due("12 stop", x.offers(), 0);
        Make.ext(x, 0, 0, 1, 2, 2);
        Make.hid(x, 1, 1, 0, 2, 0);
        due("12 ext", x.offers(), 5);
        x.feed(0);
        due("12 hid", x.offers(), 6);
        x.undo();
        x.feed(2);
        due("12 stop", x.offers(), 0);
        Make.run(x, 0);
        for (int n = 0; n < 4; n++) {
            due("12 run", x.offers(), 7);
            x.feed(0);
        }
        due("12 four events", x.offers(), 0);
    }

    private static void refuses() {
        CspRefiner x = new CspRefiner();
        for (int wrong : EXTREMES) {
            due("13 bad set", x.refuses(wrong), false);
        }
        // 32 + R would be R to a shift that is not looked at.
        due("13 set 8", x.refuses(8), false);
        due("13 set 32", x.refuses(32), false);
        due("13 stop", Make.refusals(x), 255);
        Make.prefix(x, 0, 1, 2);
        due("13 prefix", Make.refusals(x), Make.maskOf(0, 1, 4, 5));
        x.feed(1);
        due("13 after the prefix", Make.refusals(x), 255);
        Make.run(x, 0);
        for (int n = 0; n < 4; n++) {
            x.feed(n % 3);
            due("13 run", Make.refusals(x), Make.maskOf(0));
        }
    }

    private static void traces() {
        CspRefiner x = new CspRefiner();
        for (int wrong : EXTREMES) {
            due("14 bad length", x.traces(wrong), BAD_ARG);
        }
        due("14 length 5", x.traces(5), BAD_ARG);
        Make.run(x, 0);
        int all = 1;
        for (int len = 0; len <= 4; len++) {
            due("14 run", x.traces(len), all);
            all *= 3;
        }
        Make.prefix(x, 1, 0, 1);
        Make.prefix(x, 2, 1, 2);
        x.system(1, 2, 0);
        all = 1;
        for (int len = 0; len <= 4; len++) {
            due("14 side by side", x.traces(len), all);
            all *= 2;
        }
        x.feed(0);
        due("14 not of the log", x.traces(0), 1);
    }

    private static void gap() {
        CspRefiner x = new CspRefiner();
        for (int wrong : EXTREMES) {
            due("15 bad name", x.gap(wrong, 0), BAD_ARG);
            due("15 bad kind", x.gap(0, wrong), BAD_ARG);
        }
        due("15 name 8", x.gap(8, 0), BAD_ARG);
        due("15 kind 2", x.gap(0, 2), BAD_ARG);
        for (int k = 0; k < 8; k++) {
            due("15 stop", x.gap(k, 0), NONE);
            due("15 stop", x.gap(k, 1), NONE);
        }
        // X 0: 1 0 2 0 .. ; X 1: 1 0 2 for once.
        Make.prefix(x, 0, 1, 2);
        Make.prefix(x, 2, 0, 3);
        Make.prefix(x, 3, 2, 2);
        Make.prefix(x, 1, 1, 4);
        Make.prefix(x, 4, 0, 5);
        Make.prefix(x, 5, 2, 6);
        due("15 towards itself", x.gap(0, 1), NONE);
        due("15 at length 4", x.gap(1, 0), ((2 * 4 + 1) * 4 + 3) * 4 + 1);
        due("15 at length 4", x.gap(1, 1), ((2 * 4 + 1) * 4 + 3) * 4 + 1);
        due("15 at length 1", x.gap(2, 0), 2);
        due("15 by refusal", x.gap(2, 1), 0);
        x.system(1, 1, 7);
        due("15 kind 0 the other way", x.gap(0, 0), NONE);
        due("15 kind 1 the other way", x.gap(0, 1), (2 * 4 + 1) * 4 + 3);
        firstInTheOrder();
        specificationOfManyNames();
    }

    // Of the gaps 0 0, 1, and 2 the shorter ones come first, and of those the 1.
    private static void firstInTheOrder() {
        CspRefiner x = new CspRefiner();
        Make.run(x, 0);
        Make.prefix(x, 1, 0, 2);
        due("15 shorter first", x.gap(1, 0), 2);
        x.feed(0);
        x.feed(0);
        due("15 not of the log", x.gap(1, 0), 2);
        Make.prefix(x, 1, 1, 2);
        due("15 smaller first", x.gap(1, 0), 1);
    }

    // After 0 the specification X 1 may be at X 2 and at X 3: it has the failures of both.
    private static void specificationOfManyNames() {
        CspRefiner x = new CspRefiner();
        Make.hid(x, 1, 0, 2, 0, 3);
        Make.prefix(x, 2, 1, 4);
        Make.prefix(x, 3, 2, 4);
        x.system(1, 7, 0);
        due("15 its traces", x.gap(1, 0), NONE);
        due("15 its failures", x.gap(1, 1), NONE);
        Make.prefix(x, 5, 0, 2);
        due("15 the other trace", x.gap(5, 0), 1 * 4 + 3);
        due("15 the other refusal", x.gap(5, 1), 1);
    }

    private static void gapRefusal() {
        CspRefiner x = new CspRefiner();
        for (int wrong : EXTREMES) {
            due("16 bad name", x.gapRefusal(wrong), BAD_ARG);
        }
        due("16 name 8", x.gapRefusal(8), BAD_ARG);
        for (int k = 0; k < 8; k++) {
            due("16 stop", x.gapRefusal(k), NONE);
        }
        Make.prefix(x, 0, 0, 7);
        Make.prefix(x, 1, 1, 7);
        Make.prefix(x, 2, 2, 7);
        Make.ext(x, 3, 0, 7, 1, 7);
        due("16 X 0 towards X 0", x.gapRefusal(0), NONE);
        due("16 X 0 towards X 1", x.gapRefusal(1), 2);
        due("16 X 0 towards X 2", x.gapRefusal(2), 4);
        due("16 X 0 towards stop", x.gapRefusal(7), 0);
        due("16 at the word 0", x.gap(7, 1), 1);
        due("16 X 0 towards X 3", x.gapRefusal(3), 2);
        x.system(1, 1, 7);
        due("16 X 1 towards X 3", x.gapRefusal(3), 1);
        x.system(7, 7, 7);
        due("16 stop towards X 0", x.gapRefusal(0), 1);
        due("16 stop towards X 2", x.gapRefusal(2), 4);
        leastOfTheFirstGap();
    }

    // X 1 may refuse 0 alone and 1 alone but not both.
    private static void leastOfTheFirstGap() {
        CspRefiner x = new CspRefiner();
        Make.hid(x, 1, 0, 7, 1, 7);
        due("16 both at once", x.gapRefusal(1), 3);
        x.pre(0, 7);
        x.pre(1, 7);
        x.pre(2, 7);
        x.hid();
        x.hid();
        x.define(1);
        due("16 all at once", x.gapRefusal(1), 7);
    }

    private static void refined() {
        CspRefiner x = new CspRefiner();
        for (int wrong : EXTREMES) {
            due("17 bad kind", x.refined(wrong), BAD_ARG);
        }
        due("17 kind 2", x.refined(2), BAD_ARG);
        due("17 new, kind 0", x.refined(0), 8);
        due("17 new, kind 1", x.refined(1), 8);
        Make.prefix(x, 1, 0, 7);
        Make.prefix(x, 2, 1, 7);
        due("17 stop, kind 0", x.refined(0), 8);
        due("17 stop, kind 1", x.refined(1), 6);
        x.system(1, 1, 7);
        due("17 X 1, kind 0", x.refined(0), 1);
        due("17 X 1, kind 1", x.refined(1), 1);
        Make.ext(x, 3, 0, 7, 1, 7);
        Make.hid(x, 4, 0, 7, 1, 7);
        due("17 X 1, kind 0", x.refined(0), 3);
        due("17 X 1, kind 1", x.refined(1), 2);
        x.system(3, 3, 7);
        due("17 X 3, kind 0", x.refined(0), 2);
        due("17 X 3, kind 1", x.refined(1), 2);
        x.pre(0, 7);
        x.define(0);
        x.pre(0, 7);
        x.define(7);
        x.system(0, 7, 7);
        due("17 the first and the last name count", x.refined(0), 5);
    }

    private static void deadlock() {
        CspRefiner x = new CspRefiner();
        due("18 stop", x.deadlock(), 0);
        Make.run(x, 0);
        due("18 run", x.deadlock(), NONE);
        Make.ext(x, 1, 2, 0, 1, 2);
        Make.prefix(x, 2, 0, 3);
        x.system(1, 1, 7);
        due("18 after 1 0", x.deadlock(), 9);
        x.feed(1);
        due("18 not of the log", x.deadlock(), 9);
        Make.prefix(x, 4, 0, 4);
        Make.prefix(x, 5, 1, 5);
        x.system(4, 5, 3);
        due("18 by sharing", x.deadlock(), 0);
        x.system(4, 5, 2);
        due("18 one side goes on", x.deadlock(), NONE);
        deadlockAfterFour();
    }

    private static void deadlockAfterFour() {
        CspRefiner x = new CspRefiner();
        for (int k = 0; k < 4; k++) {
            Make.prefix(x, k, 2, k + 1);
        }
        due("18 after four events", x.deadlock(), ((3 * 4 + 3) * 4 + 3) * 4 + 3);
        Make.prefix(x, 4, 2, 5);
        due("18 after five events", x.deadlock(), NONE);
    }

    private static void unsure() {
        CspRefiner x = new CspRefiner();
        due("19 stop", x.unsure(), NONE);
        Make.run(x, 0);
        due("19 run", x.unsure(), NONE);
        Make.hid(x, 1, 1, 0, 2, 0);
        x.system(1, 1, 7);
        due("19 hid", x.unsure(), 2);
        Make.hid(x, 7, 0, 0, 2, 0);
        x.system(7, 7, 7);
        due("19 the first of all", x.unsure(), 1);
        Make.prefix(x, 2, 2, 1);
        x.system(2, 2, 7);
        due("19 behind an event", x.unsure(), 3 * 4 + 2);
        x.feed(2);
        due("19 not of the log", x.unsure(), 3 * 4 + 2);
        Make.prefix(x, 3, 0, 2);
        Make.prefix(x, 4, 0, 3);
        x.system(4, 4, 7);
        due("19 at length 4", x.unsure(), ((1 * 4 + 1) * 4 + 3) * 4 + 2);
        Make.prefix(x, 5, 0, 4);
        x.system(5, 5, 7);
        due("19 at length 5", x.unsure(), NONE);
        // Refused, but never done: no trace.
        Make.prefix(x, 6, 0, 6);
        x.system(6, 6, 7);
        due("19 refused and no trace", x.unsure(), NONE);
        unsureOfOneEvent();
    }

    private static void unsureOfOneEvent() {
        CspRefiner x = new CspRefiner();
        x.pre(2, 7);
        x.stop();
        x.hid();
        x.pre(1, 7);
        x.ext();
        x.define(0);
        due("19 only the refused event", x.unsure(), 3);
    }

    private static void refusedCallsChangeNothing() {
        CspRefiner x = new CspRefiner();
        Make.prefix(x, 1, 0, 2);
        Make.run(x, 2);
        x.system(1, 2, 5);
        x.feed(1);
        x.feed(0);
        for (int n = 0; n < 6; n++) {
            x.pre(1, 2);
        }
        x.stop();
        x.pre(0, 0);
        x.pre(3, 0);
        x.define(-1);
        x.system(0, 0, -1);
        x.system(0, 8, 0);
        x.feed(3);
        x.traces(7);
        x.gap(0, 5);
        x.gapRefusal(-3);
        x.refined(9);
        due("depth", x.depth(), 6);
        due("log", x.log(), 9);
        due("system", x.traces(2), 5);
        due("undo", x.undo(), 0);
        for (int n = 5; n >= 0; n--) {
            due("the stack is whole", x.define(3), n);
        }
        x.system(3, 3, 7);
        due("the top was pre 1 2", x.offers(), 2);
    }

    /** Rule 7 of LANGUAGE.md has no end: no call throws, also after the calls that the answers are promised for. */
    private static void longUse() {
        CspRefiner x = new CspRefiner();
        for (int n = 0; n < 3000; n++) {
            x.pre(n % 3, n % 8);
            x.pre((n + 1) % 3, (n + 3) % 8);
            x.ext();
            x.stop();
            x.hid();
            if (n % 7 == 0) {
                x.define(n % 8);
            }
            x.feed(n % 3);
        }
    }
}

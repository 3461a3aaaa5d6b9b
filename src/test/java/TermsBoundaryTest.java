import java.util.ArrayList;
import java.util.Arrays;
import java.util.List;
import java.util.function.Consumer;

/** The boundary cases that "What it is" and "Terms" name, each sentence by a test of its own. */
public final class TermsBoundaryTest {
    private static final Check CHECK = new Check();
    private static final Twins TWINS = new Twins(CHECK);
    /** The basic terms stop, pre 0, pre 1, pre 2: the sets each may refuse, and the event each does. */
    private static final int[] BASIC_REFUSALS = {
        255, Make.maskOf(0, 2, 4, 6), Make.maskOf(0, 1, 4, 5), Make.maskOf(0, 1, 2, 3)};
    private static final int[] BASIC_OFFERS = {0, 1, 2, 4};

    public static void main(String[] args) {
        calls512();
        constants();
        wordsOf0To4Events();
        orderShorterFirst();
        orderSmallerEventFirst();
        orderOfAnyTwoWords();
        codes();
        sets();
        stopRefusesAll();
        preRefusesSetsWithoutItsEvent();
        preOfAtMost4Events();
        extAfterTheEmptyWord();
        extOfAnyTwoChoices();
        extAfterOtherWords();
        hidHasEveryFailure();
        hidOfAnyTwoChoices();
        termsNameAnyName();
        systemWithoutShared();
        systemWithAllShared();
        systemOfBasicTerms();
        systemOfAnyTwoChoices();
        partsKeepTheOrder();
        systemOfOneNameTwice();
        noCallThrows();
        refusedCallsChangeNothing();
        queriesChangeNothing();
        CHECK.end("TermsBoundaryTest");
    }

    private static void due(String what, long got, long want) {
        CHECK.due(what, got, want);
    }

    private static void due(String what, boolean got, boolean want) {
        CHECK.due(what, got, want);
    }

    // ---- What it is

    private static void calls512() {
        CHECK.begin("An object is used for at most 512 calls");
        for (int place : new int[] {0, 1, 127, 128, 253, 254}) {
            oneTermOf255Leaves(place, false);
            oneTermOf255Leaves(place, true);
        }
        eightTermsOf31Leaves();
        termsNestedToTheRight();
        manyPushes();
        manyDefines();
        onlyDefines();
        manySystems();
        manyFeeds();
        manyRefusedCalls();
    }

    // 1 + 254 * 2 calls for the term, 1 for define, and the last two ask.
    private static void oneTermOf255Leaves(int place, boolean hidden) {
        CspRefiner x = new CspRefiner();
        for (int leaf = 0; leaf < 255; leaf++) {
            x.pre(leaf == place ? 2 : 0, leaf == place ? 7 : 1);
            if (leaf > 0) {
                due("join", hidden ? x.hid() : x.ext(), 1);
            }
        }
        due("define", x.define(0), 0);
        due("call 511 offers", x.offers(), 5);
        due("call 512 refuses 4", x.refuses(4), hidden);
    }

    // 62 calls for each name and 16 that ask.
    private static void eightTermsOf31Leaves() {
        CspRefiner x = new CspRefiner();
        for (int k = 0; k < 8; k++) {
            for (int leaf = 0; leaf < 31; leaf++) {
                x.pre(leaf == 4 * k % 31 ? 1 : 0, (k + 1) % 8);
                if (leaf > 0) {
                    x.ext();
                }
            }
            due("define", x.define(k), 0);
        }
        due("gap 7 1", x.gap(7, 1), Make.NONE);
        due("refined 1", x.refined(1), 8);
        for (int len = 0; len <= 4; len++) {
            due("traces", x.traces(len), 1 << len);
        }
        for (int n = 1; n <= 4; n++) {
            due("feed", x.feed(n % 2), n);
        }
        due("log", x.log(), Make.codeOf(1, 0, 1, 0));
        due("refuses 4", x.refuses(4), true);
        due("refuses 1", x.refuses(1), false);
        due("refuses 2", x.refuses(2), false);
        due("call 512 deadlock", x.deadlock(), Make.NONE);
    }

    // The stack goes up to 6 and down to 1 again 50 times: 1 + 50 * 10 calls.
    private static void termsNestedToTheRight() {
        CspRefiner x = new CspRefiner();
        x.pre(2, 0);
        for (int round = 0; round < 50; round++) {
            for (int n = 2; n <= 6; n++) {
                due("pre", x.pre(1, 1 + n % 5), n);
            }
            for (int n = 5; n >= 1; n--) {
                due("join", n == 3 ? x.hid() : x.ext(), n);
            }
        }
        Make.prefix(x, 7, 0, 7);
        due("define", x.define(0), 0);
        due("offers", x.offers(), 6);
        due("refuses 2", x.refuses(2), false);
        due("traces 2", x.traces(2), 2);
        due("feed", x.feed(2), 1);
        due("undo", x.undo(), 2);
        due("refined 0", x.refined(0), 1);
        due("unsure", x.unsure(), Make.NONE);
        due("call 512 traces 4", x.traces(4), 2);
    }

    // 258 terms are pushed, more than which 510 calls do not allow.
    private static void manyPushes() {
        CspRefiner x = new CspRefiner();
        for (int n = 1; n <= 6; n++) {
            due("pre", x.pre(1, n), n);
        }
        for (int n = 1; n <= 252; n++) {
            due("join", n % 2 == 0 ? x.ext() : x.hid(), 5);
            due("pre", x.pre(n == 252 ? 2 : 0, n % 8), 6);
        }
        due("define", x.define(0), 5);
        due("call 512 offers", x.offers(), 4);
    }

    // The last of 255 defines is the one that holds.
    private static void onlyDefines() {
        CspRefiner x = new CspRefiner();
        for (int n = 1; n <= 255; n++) {
            due("pre", x.pre(n == 255 ? 2 : n % 2, 0), 1);
            due("define", x.define(n == 255 ? 0 : n % 8), 0);
        }
        due("call 511 offers", x.offers(), 4);
        due("call 512 traces 4", x.traces(4), 1);
    }

    private static void manyDefines() {
        CspRefiner x = new CspRefiner();
        Make.busyStack(x, 5);
        for (int n = 0; n < 250; n++) {
            due("pre", x.pre(n % 3, n % 8), 6);
            due("define", x.define(n % 8), 5);
        }
        // X 0 is pre 2 0, of n = 248.
        due("traces 4", x.traces(4), 1);
        x.define(6);
        x.define(5);
        due("the terms below are there", x.define(3), 2);
        x.system(5, 5, 7);
        due("pre 2 0", x.offers(), 4);
        due("call 512 depth", x.depth(), 2);
    }

    private static void manySystems() {
        CspRefiner x = new CspRefiner();
        Make.prefix(x, 0, 0, 1);
        Make.prefix(x, 5, 1, 5);
        for (int n = 0; n < 506; n++) {
            due("system", x.system(n % 8, n / 8 % 8, n / 64 % 8), 0);
        }
        due("system", x.system(0, 5, 2), 0);
        due("call 512 traces 1", x.traces(1), 1);
    }

    private static void manyFeeds() {
        CspRefiner x = new CspRefiner();
        Make.prefix(x, 0, 1, 0);
        for (int n = 0; n < 254; n++) {
            due("feed", x.feed(1), 1);
            due("undo", x.undo(), 1);
        }
        due("feed", x.feed(1), 1);
        due("call 512 undo", x.undo(), 1);
        manyFeedsOn4();
    }

    private static void manyFeedsOn4() {
        CspRefiner x = new CspRefiner();
        Make.run(x, 0);
        int calls = 6;
        for (int n = 1; n <= 4; n++) {
            due("feed", x.feed(0), n);
            calls++;
        }
        while (calls < 510) {
            due("undo", x.undo(), calls == 10 ? 0 : (calls - 2) % 3);
            due("feed", x.feed(calls % 3), 4);
            calls += 2;
        }
        due("feed", x.feed(0), Make.FULL);
        due("call 512 log", x.log(), Make.codeOf(0, 0, 0, 508 % 3));
    }

    private static void manyRefusedCalls() {
        CspRefiner x = new CspRefiner();
        for (int n = 1; n <= 6; n++) {
            due("stop", x.stop(), n);
        }
        for (int n = 0; n < 251; n++) {
            due("stop", x.stop(), Make.FULL);
            due("undo", x.undo(), Make.NONE);
        }
        for (int n = 5; n >= 3; n--) {
            due("define", x.define(n), n);
        }
        due("call 512 depth", x.depth(), 3);
    }

    // ---- Terms: the constants

    private static void constants() {
        CHECK.begin("The constants");
        due("BAD_ARG", CspRefiner.BAD_ARG, -1);
        due("FULL", CspRefiner.FULL, -2);
        due("TOO_FEW", CspRefiner.TOO_FEW, -3);
        due("NONE", CspRefiner.NONE, -4);
    }

    // ---- Terms: words

    private static void wordsOf0To4Events() {
        CHECK.begin("A word is a sequence of 0 to 4 events");
        // X 0 does 0 1 2 0 1 and then stops.
        CspRefiner x = new CspRefiner();
        for (int k = 0; k < 5; k++) {
            Make.prefix(x, k, k % 3, k + 1);
        }
        for (int len = 0; len <= 4; len++) {
            due("traces " + len, x.traces(len), 1);
            due("offers", x.offers(), len < 4 ? 1 << (len % 3) : 0);
            due("refusals", Make.refusals(x), BASIC_REFUSALS[1 + len % 3]);
            due("feed", x.feed(len % 3), len < 4 ? len + 1 : Make.FULL);
        }
        due("log", x.log(), Make.codeOf(0, 1, 2, 0));
        due("the stop behind 5 events", x.deadlock(), Make.NONE);
        Make.stop(x, 4);
        due("the stop behind 4 events", x.deadlock(), Make.codeOf(0, 1, 2, 0));
        Make.stop(x, 0);
        due("the stop behind 0 events", x.deadlock(), 0);
    }

    private static void orderShorterFirst() {
        CHECK.begin("ORDER of words: a shorter one comes first");
        // Beside X 0, which does all, X 1 lacks 2 and, behind 0, 0.
        CspRefiner x = new CspRefiner();
        Make.run(x, 0);
        Make.ext(x, 1, 0, 2, 1, 0);
        Make.ext(x, 2, 1, 0, 2, 0);
        due("gap", x.gap(1, 0), Make.codeOf(2));
        Make.offerAll(x, 1, 2, 0, 0);
        due("gap", x.gap(1, 0), Make.codeOf(0, 0));
        // X 3 stops behind 2 and behind 0 0.
        Make.offerAll(x, 3, 4, 0, 7);
        Make.offerAll(x, 4, 7, 0, 0);
        x.system(3, 3, 7);
        due("deadlock", x.deadlock(), Make.codeOf(2));
        due("gap by refusal", x.gap(0, 1), Make.codeOf(2));
        Make.offerAll(x, 3, 4, 0, 0);
        due("deadlock", x.deadlock(), Make.codeOf(0, 0));
        due("gap by refusal", x.gap(0, 1), Make.codeOf(0, 0));
    }

    private static void orderSmallerEventFirst() {
        CHECK.begin("ORDER of words: the smaller event at the first place where they differ");
        // X 1 stops behind 0 2 and behind 1 0.
        CspRefiner x = new CspRefiner();
        Make.run(x, 0);
        Make.offerAll(x, 1, 2, 3, 0);
        Make.offerAll(x, 2, 0, 0, 7);
        Make.offerAll(x, 3, 7, 0, 0);
        x.system(1, 1, 7);
        due("deadlock", x.deadlock(), Make.codeOf(0, 2));
        due("gap by refusal", x.gap(0, 1), Make.codeOf(0, 2));
        x.system(0, 0, 7);
        due("gap", x.gap(1, 0), Make.codeOf(0, 2, 0));
        Make.run(x, 2);
        x.system(1, 1, 7);
        due("deadlock", x.deadlock(), Make.codeOf(1, 0));
        fourEventsSmallerFirst();
    }

    // X 0 does 0 2 2 2 or 1 0 0 0, the last event of which it may refuse, and then stops.
    private static void fourEventsSmallerFirst() {
        CspRefiner x = new CspRefiner();
        Make.ext(x, 0, 1, 4, 0, 1);
        Make.prefix(x, 1, 2, 2);
        Make.prefix(x, 2, 2, 3);
        Make.prefix(x, 3, 2, 7);
        Make.prefix(x, 4, 0, 5);
        Make.prefix(x, 5, 0, 6);
        Make.prefix(x, 6, 0, 7);
        due("deadlock", x.deadlock(), Make.codeOf(0, 2, 2, 2));
        due("gap of kind 0 towards stop", x.gap(7, 0), Make.codeOf(0));
        x.pre(0, 7);
        x.stop();
        x.hid();
        x.define(6);
        due("unsure", x.unsure(), Make.codeOf(1, 0, 0, 0));
        x.pre(2, 7);
        x.stop();
        x.hid();
        x.define(3);
        due("unsure", x.unsure(), Make.codeOf(0, 2, 2, 2));
        due("deadlock", x.deadlock(), Make.codeOf(0, 2, 2));
    }

    private static void orderOfAnyTwoWords() {
        CHECK.begin("ORDER of words, any two of which none begins the other");
        List<int[]> words = new ArrayList<>();
        for (int len = 1; len <= 4; len++) {
            for (int n = 0; n < Math.pow(3, len); n++) {
                words.add(wordOf(len, n));
            }
        }
        // The list is in the order: by length, then with the first event counting most.
        for (int first = 0; first < words.size(); first++) {
            for (int second = first + 1; second < words.size(); second++) {
                int alike = alike(words.get(first), words.get(second));
                int inner = words.get(first).length + words.get(second).length - alike - 1;
                // Six names are left for the words that lead to them, the empty word being one.
                if (alike < words.get(first).length && inner <= 6) {
                    firstOf(words.get(first), words.get(second));
                }
            }
        }
    }

    private static int[] wordOf(int len, int number) {
        int[] word = new int[len];
        int rest = number;
        for (int place = len - 1; place >= 0; place--) {
            word[place] = rest % 3;
            rest /= 3;
        }
        return word;
    }

    /** How many events two words have alike before they differ. */
    private static int alike(int[] shorter, int[] longer) {
        int place = Arrays.mismatch(shorter, longer);
        return place < 0 ? shorter.length : place;
    }

    // X 7 does all, and so does X 0, but that it is X 6 behind the two words. X 6 at first does 1
    // alone, and then does 2 or stops.
    private static void firstOf(int[] first, int[] second) {
        CspRefiner x = new CspRefiner();
        int[][] next = new int[6][];
        int used = 1;
        for (int[] word : new int[][] {second, first}) {
            int at = 0;
            for (int place = 0; place < word.length; place++) {
                if (next[at] == null) {
                    next[at] = new int[] {7, 7, 7};
                }
                int e = word[place];
                if (place == word.length - 1) {
                    next[at][e] = 6;
                } else if (next[at][e] == 7) {
                    next[at][e] = used++;
                }
                at = next[at][e];
            }
        }
        for (int k = 0; k < used; k++) {
            Make.offerAll(x, k, next[k][0], next[k][1], next[k][2]);
        }
        Make.run(x, 7);
        Make.hid(x, 6, 1, 7, 1, 7);
        String told = Arrays.toString(first) + " before " + Arrays.toString(second);
        int code = Make.codeOf(first);
        due("gap of kind 1 " + told, x.gap(7, 1), code);
        due("its refusal " + told, x.gapRefusal(7), 1);
        x.system(7, 7, 7);
        boolean longest = first.length == 4;
        due("gap of kind 0 " + told, x.gap(0, 0), longest ? Make.NONE : code * 4 + 1);
        x.stop();
        x.pre(2, 7);
        x.hid();
        x.define(6);
        x.system(0, 0, 7);
        due("deadlock " + told, x.deadlock(), code);
        due("unsure " + told, x.unsure(), longest ? Make.NONE : code * 4 + 3);
    }

    private static void codes() {
        CHECK.begin("The CODE of a word");
        int[] least = {0, 1, 5, 21, 85};
        int[] greatest = {0, 3, 15, 63, 255};
        CspRefiner x = new CspRefiner();
        Make.run(x, 0);
        for (int len = 0; len <= 4; len++) {
            due("0 for " + len + " times", x.log(), least[len]);
            x.feed(0);
        }
        x.system(0, 0, 7);
        for (int len = 0; len <= 4; len++) {
            due("2 for " + len + " times", x.log(), greatest[len]);
            x.feed(2);
        }
        x.system(0, 0, 7);
        int[] mixed = {0, 1, 7, 29, 118};
        int[] events = {0, 2, 0, 1};
        for (int len = 0; len <= 4; len++) {
            due("0 2 0 1, the first " + len, x.log(), mixed[len]);
            x.feed(len < 4 ? events[len] : 0);
        }
    }

    private static void sets() {
        CHECK.begin("A set of events is a number (0 to 7)");
        for (int set = 0; set <= 7; set++) {
            CspRefiner x = new CspRefiner();
            x.stop();
            for (int e = 0; e < 3; e++) {
                if ((set & (1 << e)) != 0) {
                    x.pre(e, 7);
                    x.ext();
                }
            }
            x.define(0);
            due("offers of set " + set, x.offers(), set);
            for (int r = 0; r <= 7; r++) {
                due("set " + set + " refuses " + r, x.refuses(r), (r & set) == 0);
            }
            // X 1 to X 3 do one event each for ever: the events that are not shared go on alone.
            for (int e = 0; e < 3; e++) {
                Make.prefix(x, 1 + e, e, 1 + e);
                x.system(1 + e, 7, set);
                due("event " + e + " with A = " + set, x.traces(1), 1 - (set >> e) % 2);
            }
        }
    }

    // ---- Terms: the four kinds of terms

    private static void stopRefusesAll() {
        CHECK.begin("stop: (empty word, R) for all R");
        CspRefiner x = new CspRefiner();
        Make.prefix(x, 0, 1, 0);
        Make.stop(x, 0);
        for (int r = 0; r <= 7; r++) {
            due("refuses " + r, x.refuses(r), true);
        }
        for (int len = 0; len <= 4; len++) {
            due("traces " + len, x.traces(len), len == 0 ? 1 : 0);
        }
    }

    private static void preRefusesSetsWithoutItsEvent() {
        CHECK.begin("pre a k: (empty word, R) for all R without a");
        for (int a = 0; a < 3; a++) {
            CspRefiner x = new CspRefiner();
            Make.prefix(x, 0, a, 3);
            for (int r = 0; r <= 7; r++) {
                due("pre " + a + " refuses " + r, x.refuses(r), (r >> a) % 2 == 0);
            }
            due("offers", x.offers(), 1 << a);
            x.feed(a);
            due("behind it", Make.refusals(x), 255);
        }
    }

    private static void preOfAtMost4Events() {
        CHECK.begin("pre a k: a followed by v of at most 4 events");
        for (int n = 3; n <= 5; n++) {
            // X 1 does the event 2 for n times, X 0 for ever.
            CspRefiner x = new CspRefiner();
            Make.prefix(x, 0, 2, 0);
            Make.chain(x, 1, 1 + n, 2);
            due("gap 0 of " + n, x.gap(1, 0), n == 3 ? 255 : Make.NONE);
            due("gap 1 of " + n, x.gap(1, 1), n == 3 ? 255 : Make.NONE);
            due("its refusal", x.gapRefusal(1), n == 3 ? 0 : Make.NONE);
            x.system(1, 1, 7);
            due("gap 0 the other way", x.gap(0, 0), Make.NONE);
            due("gap 1 the other way", x.gap(0, 1), n == 3 ? 63 : n == 4 ? 255 : Make.NONE);
            due("its refusal", x.gapRefusal(0), n == 5 ? Make.NONE : 4);
            due("traces 4", x.traces(4), n == 3 ? 0 : 1);
        }
    }

    private static void pushBasic(CspRefiner x, int kind, int k) {
        if (kind == 0) {
            x.stop();
        } else {
            x.pre(kind - 1, k);
        }
    }

    private static int offersOf(int kindM, int kindN) {
        return BASIC_OFFERS[kindM] | BASIC_OFFERS[kindN];
    }

    private static void extAfterTheEmptyWord() {
        CHECK.begin("ext M N: (empty word, R) that is a failure of M and a failure of N");
        for (int m = 0; m < 4; m++) {
            for (int n = 0; n < 4; n++) {
                CspRefiner x = new CspRefiner();
                Make.run(x, 7);
                pushBasic(x, m, 1);
                pushBasic(x, n, 2);
                x.ext();
                x.define(0);
                x.system(0, 7, 7);
                due("of " + m + " and " + n, Make.refusals(x), BASIC_REFUSALS[m] & BASIC_REFUSALS[n]);
                due("offers", x.offers(), offersOf(m, n));
                // A third term: ext of a hid.
                pushBasic(x, m, 1);
                pushBasic(x, n, 2);
                x.hid();
                x.pre(2, 3);
                x.ext();
                x.define(0);
                due("hid inside", Make.refusals(x),
                    (BASIC_REFUSALS[m] | BASIC_REFUSALS[n]) & BASIC_REFUSALS[3]);
                due("offers", x.offers(), offersOf(m, n) | 4);
            }
        }
    }

    private static void extOfAnyTwoChoices() {
        CHECK.begin("ext M N: (empty word, R) that is a failure of both, any two choices");
        for (Make.Choice m : Make.choices()) {
            for (Make.Choice n : Make.choices()) {
                CspRefiner x = new CspRefiner();
                Make.push(x, m, 7);
                Make.push(x, n, 7);
                x.ext();
                aloneAs(x, m, n, m.refusals() & n.refusals());
            }
        }
    }

    private static void hidOfAnyTwoChoices() {
        CHECK.begin("hid M N: every failure of M and every failure of N, any two choices");
        for (Make.Choice m : Make.choices()) {
            for (Make.Choice n : Make.choices()) {
                CspRefiner x = new CspRefiner();
                Make.push(x, m, 7);
                Make.push(x, n, 7);
                x.hid();
                aloneAs(x, m, n, m.refusals() | n.refusals());
            }
        }
    }

    /** The term on the stack, as X 0 alone, refuses these and does the events of both choices. */
    private static void aloneAs(CspRefiner x, Make.Choice m, Make.Choice n, int refusals) {
        x.define(0);
        Make.run(x, 7);
        x.system(0, 7, 7);
        String told = m.offers() + " and " + n.offers();
        due("refusals of " + told, Make.refusals(x), refusals);
        due("offers of " + told, x.offers(), m.events() | n.events());
    }

    private static void extAfterOtherWords() {
        CHECK.begin("ext M N: (u, R) with u not empty that is a failure of M or of N");
        CspRefiner x = new CspRefiner();
        Make.run(x, 7);
        Make.ext(x, 0, 1, 1, 1, 2);
        Make.prefix(x, 1, 0, 3);
        Make.prefix(x, 2, 2, 3);
        x.system(0, 7, 7);
        due("at once", Make.refusals(x), BASIC_REFUSALS[2]);
        x.feed(1);
        due("of M or of N, not united", Make.refusals(x), BASIC_REFUSALS[1] | BASIC_REFUSALS[3]);
        due("offers", x.offers(), 5);
        due("feed", x.feed(0), 2);
        due("stop behind it", Make.refusals(x), 255);
        due("unsure", x.unsure(), Make.codeOf(1, 0));
    }

    private static void hidHasEveryFailure() {
        CHECK.begin("hid M N: every failure of M and every failure of N");
        for (int m = 0; m < 4; m++) {
            for (int n = 0; n < 4; n++) {
                CspRefiner x = new CspRefiner();
                Make.run(x, 7);
                pushBasic(x, m, 1);
                pushBasic(x, n, 2);
                x.hid();
                x.define(0);
                Make.prefix(x, 1, 0, 3);
                Make.prefix(x, 2, 2, 3);
                x.system(0, 7, 7);
                due("of " + m + " and " + n, Make.refusals(x), BASIC_REFUSALS[m] | BASIC_REFUSALS[n]);
                due("offers", x.offers(), offersOf(m, n));
                for (int a = 0; a < 3; a++) {
                    boolean byM = m == a + 1;
                    boolean byN = n == a + 1;
                    due("feed", x.feed(a), byM || byN ? 1 : Make.NONE);
                    int behind = (byM ? BASIC_REFUSALS[1] : 0) | (byN ? BASIC_REFUSALS[3] : 0);
                    if (behind != 0) {
                        due("behind " + a, Make.refusals(x), behind);
                        due("undo", x.undo(), a);
                    }
                }
            }
        }
    }

    private static void termsNameAnyName() {
        CHECK.begin("eight named processes, each given by a term (which may name any of them)");
        for (int k = 0; k < 8; k++) {
            for (int l = 0; l < 8; l++) {
                CspRefiner x = new CspRefiner();
                Make.prefix(x, l, 1, l);
                Make.prefix(x, k, 0, l);
                x.system(k, k, 7);
                due(k + " as " + l, x.feed(0), 1);
                due(k + " as " + l + " goes on", x.offers(), k == l ? 1 : 2);
                due(k + " as " + l + " for ever", x.traces(4), 1);
                for (int other = 0; other < 8; other++) {
                    int behind = other == k ? Make.NONE : Make.codeOf(0);
                    due("no other name is changed", x.gap(other, 0), behind);
                }
            }
        }
    }

    // ---- Terms: the system

    private static void systemWithoutShared() {
        CHECK.begin("The SYSTEM with A empty: every place is parted, Y and Z are the same");
        CspRefiner x = new CspRefiner();
        Make.prefix(x, 0, 0, 1);
        Make.prefix(x, 1, 1, 7);
        Make.prefix(x, 2, 0, 3);
        Make.prefix(x, 3, 2, 7);
        x.system(0, 2, 0);
        int[] counts = {1, 1, 3, 4, 4};
        for (int len = 0; len <= 4; len++) {
            due("traces " + len, x.traces(len), counts[len]);
        }
        due("both refuse 1 and 2", Make.refusals(x), Make.maskOf(0, 2, 4, 6));
        x.feed(0);
        due("1 and 0, or 0 and 2", Make.refusals(x), Make.maskOf(0, 4) | Make.maskOf(0, 2));
        due("offers", x.offers(), 7);
        due("unsure", x.unsure(), Make.codeOf(0, 1));
        due("deadlock", x.deadlock(), Make.codeOf(0, 0, 1, 2));
    }

    private static void systemWithAllShared() {
        CHECK.begin("The SYSTEM with A = 7: no place is parted, Y and Z are any");
        CspRefiner x = new CspRefiner();
        Make.hid(x, 0, 0, 1, 1, 2);
        Make.hid(x, 3, 0, 4, 1, 4);
        Make.run(x, 4);
        Make.prefix(x, 1, 2, 7);
        x.system(0, 3, 7);
        due("offers", x.offers(), 3);
        due("all sets", Make.refusals(x), 255);
        due("deadlock", x.deadlock(), 0);
        due("traces 2", x.traces(2), 1);
        x.feed(0);
        due("behind 0", Make.refusals(x), BASIC_REFUSALS[3]);
        x.undo();
        x.feed(1);
        due("behind 1", Make.refusals(x), 255);
    }

    /** Every Y united with Z, Y of the one mask, Z of the other, the same outside A. */
    private static int united(int ys, int zs, int shared) {
        int mask = 0;
        for (int y = 0; y < 8; y++) {
            for (int z = 0; z < 8; z++) {
                boolean both = (ys >> y) % 2 == 1 && (zs >> z) % 2 == 1;
                if (both && (y | shared) == (z | shared)) {
                    mask |= 1 << (y | z);
                }
            }
        }
        return mask;
    }

    private static void systemOfBasicTerms() {
        CHECK.begin("The SYSTEM: (u, Y united with Z), the same outside A");
        for (int m = 0; m < 4; m++) {
            for (int n = 0; n < 4; n++) {
                for (int shared = 0; shared < 8; shared++) {
                    CspRefiner x = new CspRefiner();
                    pushBasic(x, m, 7);
                    x.define(5);
                    pushBasic(x, n, 7);
                    x.define(6);
                    x.system(5, 6, shared);
                    String told = m + " and " + n + " with A = " + shared;
                    int together = BASIC_OFFERS[m] & BASIC_OFFERS[n] & shared;
                    int alone = offersOf(m, n) & ~shared;
                    int united = united(BASIC_REFUSALS[m], BASIC_REFUSALS[n], shared);
                    due("offers of " + told, x.offers(), together | alone);
                    due("refusals of " + told, Make.refusals(x), united);
                    x.system(6, 5, shared);
                    due("offers, the sides changed", x.offers(), together | alone);
                    due("refusals, the sides changed", Make.refusals(x), united);
                }
            }
        }
    }

    private static void systemOfAnyTwoChoices() {
        CHECK.begin("The SYSTEM: (u, Y united with Z), the same outside A, any two choices");
        for (Make.Choice m : Make.choices()) {
            for (Make.Choice n : Make.choices()) {
                CspRefiner x = new CspRefiner();
                Make.push(x, m, 7);
                x.define(3);
                Make.push(x, n, 7);
                x.define(4);
                for (int shared = 0; shared < 8; shared++) {
                    x.system(3, 4, shared);
                    String told = m.offers() + " and " + n.offers() + " with A = " + shared;
                    int together = m.events() & n.events() & shared;
                    int alone = (m.events() | n.events()) & ~shared;
                    due("offers of " + told, x.offers(), together | alone);
                    due("refusals of " + told, Make.refusals(x), united(m.refusals(), n.refusals(), shared));
                }
            }
        }
    }

    private static void partsKeepTheOrder() {
        CHECK.begin("The SYSTEM: each in the order they have in u");
        // X 0 does 0 1 2; X 3 does 2; 2 is shared.
        CspRefiner x = new CspRefiner();
        Make.prefix(x, 0, 0, 1);
        Make.prefix(x, 1, 1, 2);
        Make.prefix(x, 2, 2, 7);
        Make.prefix(x, 3, 2, 4);
        Make.prefix(x, 4, 0, 7);
        x.system(0, 3, 4);
        due("not 1", x.feed(1), Make.NONE);
        due("not 2", x.feed(2), Make.NONE);
        due("0", x.feed(0), 1);
        due("not 0", x.feed(0), Make.NONE);
        due("not 2", x.feed(2), Make.NONE);
        due("1", x.feed(1), 2);
        due("offers", x.offers(), 4);
        due("2 by both", x.feed(2), 3);
        due("not 2 again", x.feed(2), Make.NONE);
        due("0 by the second", x.feed(0), 4);
        due("then all is refused", x.refuses(7), true);
        due("deadlock", x.deadlock(), Make.codeOf(0, 1, 2, 0));
    }

    private static void systemOfOneNameTwice() {
        CHECK.begin("The SYSTEM: two names i, j may be one");
        CspRefiner x = new CspRefiner();
        for (int k = 0; k < 8; k++) {
            Make.prefix(x, k, 1, (k + 1) % 8);
            Make.stop(x, (k + 1) % 8);
            x.system(k, k, 2);
            due("together once", x.traces(1) * 10 + x.traces(2), 10);
            x.system(k, k, 5);
            due("each once", x.traces(2) * 10 + x.traces(3), 10);
        }
    }

    // ---- Terms: no call ever throws, a refused call changes nothing

    private static void noCallThrows() {
        CHECK.begin("No call ever throws");
        for (int depth = 0; depth <= 6; depth++) {
            for (int length = 0; length <= 4; length++) {
                CspRefiner x = new CspRefiner();
                Make.busy(depth, length).accept(x);
                for (int wrong : Make.outside(7)) {
                    askAll(x, wrong);
                }
                due("depth", x.depth(), depth);
                due("log", x.log(), Make.BUSY_CODES[length]);
            }
        }
    }

    private static void askAll(CspRefiner x, int wrong) {
        due("pre", x.pre(wrong, wrong), Make.BAD_ARG);
        due("define", x.define(wrong), Make.BAD_ARG);
        due("system", x.system(wrong, wrong, wrong), Make.BAD_ARG);
        due("feed", x.feed(wrong), Make.BAD_ARG);
        due("refuses", x.refuses(wrong), false);
        due("traces", x.traces(wrong), Make.BAD_ARG);
        due("gap", x.gap(wrong, wrong), Make.BAD_ARG);
        due("gapRefusal", x.gapRefusal(wrong), Make.BAD_ARG);
        due("refined", x.refined(wrong), Make.BAD_ARG);
    }

    private static void refusedCallsChangeNothing() {
        CHECK.begin("A refused call answers the code named and changes nothing");
        for (int depth = 0; depth <= 6; depth++) {
            for (int length = 0; length <= 4; length++) {
                refusedIn(depth, length);
            }
        }
    }

    private static void refusedIn(int depth, int length) {
        Consumer<CspRefiner> made = Make.busy(depth, length);
        TWINS.same("a refused call", made, made.andThen(x -> refusedCalls(x, depth, length)), Twins.ALL);
    }

    private static void refusedCalls(CspRefiner x, int depth, int length) {
        for (int wrong : new int[] {-1, 8, Integer.MIN_VALUE, Integer.MAX_VALUE}) {
            askAll(x, wrong);
        }
        due("pre 3 0", x.pre(3, 0), Make.BAD_ARG);
        due("system 7 8 0", x.system(7, 8, 0), Make.BAD_ARG);
        due("system 7 6 8", x.system(7, 6, 8), Make.BAD_ARG);
        due("system 8 6 1", x.system(8, 6, 1), Make.BAD_ARG);
        due("feed 3", x.feed(3), Make.BAD_ARG);
        due("gap 0 2", x.gap(0, 2), Make.BAD_ARG);
        due("traces 5", x.traces(5), Make.BAD_ARG);
        if (depth == 6) {
            due("stop", x.stop(), Make.FULL);
            due("pre 0 0", x.pre(0, 0), Make.FULL);
        }
        if (depth < 2) {
            due("ext", x.ext(), Make.TOO_FEW);
            due("hid", x.hid(), Make.TOO_FEW);
        }
        if (depth == 0) {
            due("define 0", x.define(0), Make.TOO_FEW);
        }
        if (length == 0) {
            due("undo", x.undo(), Make.NONE);
        }
        if (length == 4) {
            due("feed 0", x.feed(0), Make.FULL);
        }
    }

    private static void queriesChangeNothing() {
        CHECK.begin("Nothing beyond the answers and state changes described");
        for (int depth = 0; depth <= 6; depth += 3) {
            for (int length = 0; length <= 4; length++) {
                Consumer<CspRefiner> made = Make.busy(depth, length);
                TWINS.same("a query", made, made.andThen(TermsBoundaryTest::query), Twins.ALL);
            }
        }
    }

    private static void query(CspRefiner x) {
        x.depth();
        x.log();
        x.offers();
        Make.refusals(x);
        for (int len = 0; len <= 4; len++) {
            x.traces(len);
        }
        for (int k = 0; k < 8; k++) {
            x.gap(k, k % 2);
            x.gapRefusal(k);
        }
        x.refined(0);
        x.refined(1);
        x.deadlock();
        x.unsure();
    }
}

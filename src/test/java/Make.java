import java.util.ArrayList;
import java.util.HashSet;
import java.util.List;
import java.util.Set;
import java.util.function.Consumer;

/** Gives names their terms and brings objects into states that the tests begin with. */
final class Make {
    static final int BAD_ARG = -1;
    static final int FULL = -2;
    static final int TOO_FEW = -3;
    static final int NONE = -4;

    /** The log of a busy object, event by event. */
    static final int[] BUSY_LOG = {2, 0, 1, 2};
    static final int[] BUSY_CODES = {0, 3, 13, 54, 219};
    /** The name of a busy object that does every event for ever. */
    static final int BUSY_RUN = 4;
    /** The name of a busy object that is stop and that no term names. */
    static final int BUSY_STOP = 6;

    /**
     * A hidden choice between offers, each a set of events: what it may refuse (as a mask with the
     * bit R) and which events it may do.
     */
    record Choice(List<Integer> offers, int refusals, int events) { }

    private Make() { }

    /** All choices that are unlike in what they may refuse or do, each of as few offers as it takes. */
    static List<Choice> choices() {
        List<Choice> all = new ArrayList<>();
        Set<Integer> seen = new HashSet<>();
        for (int size = 1; size <= 8; size++) {
            for (int offers = 1; offers < 256; offers++) {
                if (Integer.bitCount(offers) == size) {
                    Choice choice = choiceOf(offers);
                    if (seen.add(choice.refusals * 8 + choice.events)) {
                        all.add(choice);
                    }
                }
            }
        }
        return all;
    }

    private static Choice choiceOf(int offers) {
        List<Integer> sets = new ArrayList<>();
        int refusals = 0;
        int events = 0;
        for (int offer = 0; offer < 8; offer++) {
            if ((offers >> offer) % 2 == 1) {
                sets.add(offer);
                events |= offer;
                for (int r = 0; r < 8; r++) {
                    refusals |= (r & offer) == 0 ? 1 << r : 0;
                }
            }
        }
        return new Choice(sets, refusals, events);
    }

    /** Pushes the choice; behind each event it goes on as X k. */
    static void push(CspRefiner x, Choice choice, int k) {
        for (int n = 0; n < choice.offers.size(); n++) {
            pushOffer(x, choice.offers.get(n), k);
            if (n > 0) {
                x.hid();
            }
        }
    }

    private static void pushOffer(CspRefiner x, int offer, int k) {
        int terms = 0;
        for (int e = 0; e < 3; e++) {
            if ((offer >> e) % 2 == 1) {
                x.pre(e, k);
                terms++;
            }
        }
        if (terms == 0) {
            x.stop();
        }
        for (int n = 1; n < terms; n++) {
            x.ext();
        }
    }

    static void stop(CspRefiner x, int name) {
        x.stop();
        x.define(name);
    }

    static void prefix(CspRefiner x, int name, int a, int k) {
        x.pre(a, k);
        x.define(name);
    }

    static void ext(CspRefiner x, int name, int a, int k, int b, int l) {
        x.pre(a, k);
        x.pre(b, l);
        x.ext();
        x.define(name);
    }

    static void hid(CspRefiner x, int name, int a, int k, int b, int l) {
        x.pre(a, k);
        x.pre(b, l);
        x.hid();
        x.define(name);
    }

    /** X name offers 0, 1 and 2 and goes on as these three names. */
    static void offerAll(CspRefiner x, int name, int after0, int after1, int after2) {
        x.pre(0, after0);
        x.pre(1, after1);
        x.pre(2, after2);
        x.ext();
        x.ext();
        x.define(name);
    }

    /** X name does any of the three events for ever. */
    static void run(CspRefiner x, int name) {
        offerAll(x, name, name, name, name);
    }

    /** X name does the event a and then is X name + 1, and so on up to X last, which is left as it is. */
    static void chain(CspRefiner x, int name, int last, int a) {
        for (int k = name; k < last; k++) {
            prefix(x, k, a, k + 1);
        }
    }

    /** The sets R that the system refuses after the log, as a mask with the bit R. */
    static int refusals(CspRefiner x) {
        int mask = 0;
        for (int set = 0; set < 8; set++) {
            mask |= x.refuses(set) ? 1 << set : 0;
        }
        return mask;
    }

    static int maskOf(int... sets) {
        int mask = 0;
        for (int set : sets) {
            mask |= 1 << set;
        }
        return mask;
    }

    static int codeOf(int... events) {
        int code = 0;
        for (int e : events) {
            code = code * 4 + e + 1;
        }
        return code;
    }

    /** Numbers that are not 0 to greatest: beside it on both sides, far off, and such that a shift or a mask would bring back. */
    static int[] outside(int greatest) {
        return new int[] {
            -1, greatest + 1, -2, greatest + 2, -3, -4, -8, 8, 9, -32, 32, 33, 32 + greatest, 64, -64, -256, 256,
            256 + greatest, 1 << 16, (1 << 16) + 1, 1 << 31, (1 << 31) + 1, (1 << 31) + greatest, -(1 << 30), 1 << 30,
            Integer.MAX_VALUE - 1, Integer.MAX_VALUE};
    }

    /** All names are given by terms, depth terms are on the stack, two unlike names run and the log has logLength events. */
    static Consumer<CspRefiner> busy(int depth, int logLength) {
        return x -> {
            busyNames(x);
            busyStack(x, depth);
            x.system(3, 5, 2);
            for (int n = 0; n < logLength; n++) {
                x.feed(BUSY_LOG[n]);
            }
        };
    }

    static void busyNames(CspRefiner x) {
        ext(x, 0, 0, 1, 1, 2);
        hid(x, 1, 1, 0, 2, 3);
        prefix(x, 2, 2, 0);
        x.pre(0, 0);
        x.stop();
        x.hid();
        x.pre(2, 5);
        x.ext();
        x.define(3);
        run(x, BUSY_RUN);
        x.pre(0, 5);
        x.pre(1, 3);
        x.pre(2, 1);
        x.ext();
        x.hid();
        x.define(5);
        stop(x, BUSY_STOP);
        prefix(x, 7, 1, 7);
    }

    static void busyStack(CspRefiner x, int depth) {
        for (int n = 0; n < depth; n++) {
            switch (n) {
                case 0 -> x.pre(0, 1);
                case 1 -> x.pre(1, 2);
                case 2 -> x.stop();
                case 3 -> x.pre(2, 0);
                case 4 -> x.pre(1, 7);
                default -> x.pre(0, 5);
            }
        }
    }
}

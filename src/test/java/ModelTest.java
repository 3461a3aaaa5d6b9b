/** Many made-up runs, the same ones every time, on the class and on the model of the document. */
public final class ModelTest {
    private static final int RUNS = 400;
    // An object is promised for 512 calls; a look at everything takes 58 of them.
    private static final int CALLS = 512;
    private static final int LOOK = 58;

    private static final Check CHECK = new Check();

    private final CspRefiner real = new CspRefiner();
    private final CspModel model = new CspModel();
    private final StringBuilder told = new StringBuilder();
    private final int style;
    private long seed;
    private int calls = 0;

    private ModelTest(int run) {
        seed = run * 7919L + 17;
        style = run % 4;
    }

    public static void main(String[] args) {
        for (int run = 0; run < RUNS && !CHECK.hasWrong(); run++) {
            new ModelTest(run).go();
        }
        CHECK.end("ModelTest");
    }

    private int pick(int bound) {
        seed = seed * 6364136223846793005L + 1442695040888963407L;
        return (int) ((seed >>> 33) % bound);
    }

    /** One of 0 to greatest, now and then one outside. */
    private int about(int greatest) {
        int[] outside = {-1, greatest + 1, Integer.MIN_VALUE, Integer.MAX_VALUE, greatest + 32};
        return pick(40) == 0 ? outside[pick(outside.length)] : pick(greatest + 1);
    }

    private void same(String call, long got, long want) {
        calls++;
        told.append(call).append(' ');
        CHECK.due(got == want ? call : told.toString(), got, want);
    }

    private void go() {
        if (style > 0) {
            defineAll();
        }
        while (calls + LOOK + 12 < CALLS && !CHECK.hasWrong()) {
            for (int n = 0; n < 12; n++) {
                anyCall();
            }
            if (pick(3) == 0) {
                look();
            }
        }
    }

    /** Gives every name a term, so that systems with long traces are common. */
    private void defineAll() {
        for (int k = 0; k < 8; k++) {
            int leaves = 1 + pick(style + 1);
            for (int n = 0; n < leaves; n++) {
                pushAny();
            }
            for (int n = 1; n < leaves; n++) {
                joinAny();
            }
            same("define(" + k + ")", real.define(k), model.define(k));
        }
    }

    private void pushAny() {
        if (pick(8) == 0) {
            same("stop()", real.stop(), model.stop());
            return;
        }
        int a = about(2);
        int k = about(7);
        same("pre(" + a + "," + k + ")", real.pre(a, k), model.pre(a, k));
    }

    private void joinAny() {
        if (pick(2) == 0) {
            same("ext()", real.ext(), model.ext());
        } else {
            same("hid()", real.hid(), model.hid());
        }
    }

    private void anyCall() {
        switch (pick(12)) {
            case 0, 1 -> pushAny();
            case 2 -> joinAny();
            case 3 -> {
                int k = about(7);
                if (pick(3) == 0) {
                    same("define(" + k + ")", real.define(k), model.define(k));
                }
            }
            case 4 -> {
                int i = about(7);
                int j = about(7);
                int shared = about(7);
                if (pick(2) == 0) {
                    same("system(" + i + "," + j + "," + shared + ")",
                        real.system(i, j, shared), model.system(i, j, shared));
                }
            }
            case 5 -> same("undo()", real.undo(), model.undo());
            default -> {
                int a = about(2);
                same("feed(" + a + ")", real.feed(a), model.feed(a));
            }
        }
    }

    private void look() {
        same("depth()", real.depth(), model.depth());
        same("log()", real.log(), model.log());
        same("offers()", real.offers(), model.offers());
        for (int set = -1; set <= 8; set++) {
            same("refuses(" + set + ")", real.refuses(set) ? 1 : 0, model.refuses(set) ? 1 : 0);
        }
        for (int len = -1; len <= 5; len++) {
            same("traces(" + len + ")", real.traces(len), model.traces(len));
        }
        for (int k = -1; k <= 8; k++) {
            same("gap(" + k + ",0)", real.gap(k, 0), model.gap(k, 0));
            same("gap(" + k + ",1)", real.gap(k, 1), model.gap(k, 1));
            same("gapRefusal(" + k + ")", real.gapRefusal(k), model.gapRefusal(k));
        }
        for (int kind = -1; kind <= 2; kind++) {
            same("refined(" + kind + ")", real.refined(kind), model.refined(kind));
        }
        same("gap(0,-1)", real.gap(0, -1), model.gap(0, -1));
        same("gap(0,2)", real.gap(0, 2), model.gap(0, 2));
        same("deadlock()", real.deadlock(), model.deadlock());
        same("unsure()", real.unsure(), model.unsure());
    }
}

public final class CspRefiner {
    public static final int BAD_ARG = -1;
    public static final int FULL = -2;
    public static final int TOO_FEW = -3;
    public static final int NONE = -4;

    private static final int EVENTS = 3;
    private static final int SETS = 8;
    private static final int ALL_EVENTS = 7;
    private static final int NAMES = 8;
    private static final int PAIRS = NAMES * NAMES;
    private static final int STACK_LIMIT = 6;
    private static final int LOG_LIMIT = 4;

    // A word is held as its place in the order of words, so that a rising
    // index walks the words in order: the word w followed by the event a is
    // at 3 * w + 1 + a, and the words of at most 3 events are the first 40.
    private static final int WORDS = 121;
    private static final int EXTENDABLE_WORDS = 40;
    private static final int EMPTY_WORD = 0;
    private static final int NAMED_WORDS = NAMES * WORDS;

    // Several refusals (sets R) are held as a mask with the bit R for each.
    //
    // A term is held as what decides its failures: the lowest 8 bits are the
    // mask of its refusals after the empty word, and the 8 bits from
    // 8 + 8 * a on are the names it may go on as after the event a. Names,
    // not their failures, so that a later define is seen by older terms; and
    // no tree, so that a term of any size fits.
    private static final int BYTE = 255;
    private static final int STOP_TERM = 255;

    private final int[] stack = new int[STACK_LIMIT];
    private int stackSize;
    private final int[] termOf = new int[NAMES];

    private int firstName;
    private int secondName;
    private int sharedEvents;

    private int logWord;

    private final int[] codeOf = new int[WORDS];
    private final int[] lengthOf = new int[WORDS];

    // What follows from the definitions and the system, made anew whenever
    // one of these changes. A failures entry that is 0 is not a trace.
    private final int[] namesReached = new int[WORDS];
    private final int[] namedFailures = new int[NAMED_WORDS];
    private final long[] pairsReached = new long[WORDS];
    private final int[] pairRefusals = new int[PAIRS];
    private final int[] systemFailures = new int[WORDS];

    public CspRefiner() {
        stackSize = 0;
        for (int k = 0; k < NAMES; k++) {
            termOf[k] = STOP_TERM;
        }
        firstName = 0;
        secondName = 0;
        sharedEvents = ALL_EVENTS;
        logWord = EMPTY_WORD;
        measureWords();
        followNames();
        followSystem();
    }

    public int stop() {
        return push(STOP_TERM);
    }

    public int pre(int a, int k) {
        if (!isEvent(a) || !isName(k)) {
            return BAD_ARG;
        }
        int refusals = 0;
        for (int set = 0; set < SETS; set++) {
            if (!hasBit(set, a)) {
                refusals |= 1 << set;
            }
        }
        int goesOn = 1 << (8 + 8 * a + k);
        return push(refusals | goesOn);
    }

    public int ext() {
        if (stackSize < 2) {
            return TOO_FEW;
        }
        int upper = stack[stackSize - 1];
        int lower = stack[stackSize - 2];
        int refusals = upper & lower & BYTE;
        int goesOn = (upper | lower) & ~BYTE;
        return replaceTopTwo(refusals | goesOn);
    }

    public int hid() {
        if (stackSize < 2) {
            return TOO_FEW;
        }
        int upper = stack[stackSize - 1];
        int lower = stack[stackSize - 2];
        return replaceTopTwo(upper | lower);
    }

    public int depth() {
        return stackSize;
    }

    public int define(int k) {
        if (!isName(k)) {
            return BAD_ARG;
        }
        if (stackSize < 1) {
            return TOO_FEW;
        }
        stackSize--;
        termOf[k] = stack[stackSize];
        logWord = EMPTY_WORD;
        followNames();
        followSystem();
        return stackSize;
    }

    public int system(int i, int j, int shared) {
        if (!isName(i) || !isName(j) || !isSet(shared)) {
            return BAD_ARG;
        }
        firstName = i;
        secondName = j;
        sharedEvents = shared;
        logWord = EMPTY_WORD;
        followSystem();
        return 0;
    }

    public int feed(int a) {
        if (!isEvent(a)) {
            return BAD_ARG;
        }
        if (logWord >= EXTENDABLE_WORDS) {
            return FULL;
        }
        int longer = append(logWord, a);
        if (systemFailures[longer] == 0) {
            return NONE;
        }
        logWord = longer;
        return lengthOf[logWord];
    }

    public int undo() {
        if (logWord == EMPTY_WORD) {
            return NONE;
        }
        int event = lastEvent(logWord);
        logWord = withoutLast(logWord);
        return event;
    }

    public int log() {
        return codeOf[logWord];
    }

    public int offers() {
        if (logWord >= EXTENDABLE_WORDS) {
            return 0;
        }
        int offered = 0;
        for (int a = 0; a < EVENTS; a++) {
            int longer = append(logWord, a);
            if (systemFailures[longer] != 0) {
                offered |= 1 << a;
            }
        }
        return offered;
    }

    public boolean refuses(int set) {
        return isSet(set) && hasBit(systemFailures[logWord], set);
    }

    public int traces(int len) {
        if (len < 0 || len > LOG_LIMIT) {
            return BAD_ARG;
        }
        int count = 0;
        for (int word = 0; word < WORDS; word++) {
            if (lengthOf[word] == len && systemFailures[word] != 0) {
                count++;
            }
        }
        return count;
    }

    public int gap(int k, int kind) {
        if (!isName(k) || !isKind(kind)) {
            return BAD_ARG;
        }
        int word = firstGap(k, kind);
        return word == NONE ? NONE : codeOf[word];
    }

    public int gapRefusal(int k) {
        if (!isName(k)) {
            return BAD_ARG;
        }
        int word = firstGap(k, 1);
        if (word == NONE) {
            return NONE;
        }
        int excess = excessFailures(k, word);
        for (int set = 0; set < SETS; set++) {
            if (hasBit(excess, set)) {
                return set;
            }
        }
        return NONE;
    }

    public int refined(int kind) {
        if (!isKind(kind)) {
            return BAD_ARG;
        }
        int count = 0;
        for (int k = 0; k < NAMES; k++) {
            if (firstGap(k, kind) == NONE) {
                count++;
            }
        }
        return count;
    }

    public int deadlock() {
        for (int word = 0; word < WORDS; word++) {
            if (hasBit(systemFailures[word], ALL_EVENTS)) {
                return codeOf[word];
            }
        }
        return NONE;
    }

    public int unsure() {
        for (int word = 1; word < WORDS; word++) {
            int before = withoutLast(word);
            int onlyLast = 1 << lastEvent(word);
            if (systemFailures[word] != 0 && hasBit(systemFailures[before], onlyLast)) {
                return codeOf[word];
            }
        }
        return NONE;
    }

    private static boolean isEvent(int a) {
        return a >= 0 && a < EVENTS;
    }

    private static boolean isName(int k) {
        return k >= 0 && k < NAMES;
    }

    private static boolean isSet(int set) {
        return set >= 0 && set < SETS;
    }

    private static boolean isKind(int kind) {
        return kind == 0 || kind == 1;
    }

    private static boolean hasBit(int mask, int bit) {
        return ((mask >>> bit) & 1) != 0;
    }

    private static int append(int word, int a) {
        return EVENTS * word + 1 + a;
    }

    private static int lastEvent(int word) {
        return (word - 1) % EVENTS;
    }

    private static int withoutLast(int word) {
        return (word - 1) / EVENTS;
    }

    private int push(int term) {
        if (stackSize >= STACK_LIMIT) {
            return FULL;
        }
        stack[stackSize] = term;
        stackSize++;
        return stackSize;
    }

    private int replaceTopTwo(int term) {
        stackSize--;
        stack[stackSize - 1] = term;
        return stackSize;
    }

    /** The first word that is a gap of the kind towards X k, or NONE. */
    private int firstGap(int k, int kind) {
        for (int word = 0; word < WORDS; word++) {
            boolean found = kind == 0
                ? systemFailures[word] != 0 && namedFailures[k * WORDS + word] == 0
                : excessFailures(k, word) != 0;
            if (found) {
                return word;
            }
        }
        return NONE;
    }

    private int excessFailures(int k, int word) {
        return systemFailures[word] & ~namedFailures[k * WORDS + word];
    }

    private void measureWords() {
        for (int word = 0; word < EXTENDABLE_WORDS; word++) {
            for (int a = 0; a < EVENTS; a++) {
                int longer = append(word, a);
                codeOf[longer] = codeOf[word] * 4 + a + 1;
                lengthOf[longer] = lengthOf[word] + 1;
            }
        }
    }

    private void followNames() {
        for (int k = 0; k < NAMES; k++) {
            namesReached[EMPTY_WORD] = 1 << k;
            for (int word = 0; word < EXTENDABLE_WORDS; word++) {
                for (int a = 0; a < EVENTS; a++) {
                    int longer = append(word, a);
                    namesReached[longer] = stepNames(namesReached[word], a);
                }
            }
            for (int word = 0; word < WORDS; word++) {
                namedFailures[k * WORDS + word] = refusalsOfNames(namesReached[word]);
            }
        }
    }

    private int stepNames(int names, int a) {
        int next = 0;
        for (int k = 0; k < NAMES; k++) {
            if (hasBit(names, k)) {
                next |= namesAfter(k, a);
            }
        }
        return next;
    }

    private int namesAfter(int k, int a) {
        return (termOf[k] >>> (8 + 8 * a)) & BYTE;
    }

    private int refusalsOfNames(int names) {
        int refusals = 0;
        for (int k = 0; k < NAMES; k++) {
            if (hasBit(names, k)) {
                refusals |= termOf[k] & BYTE;
            }
        }
        return refusals;
    }

    // A pair of names (p, q) is the bit 8 * p + q. To follow the pairs that
    // the two sides may have come to, event by event, is to try every parting
    // of the word at once: each event outside A is given to either side.
    private void followSystem() {
        joinRefusals();
        pairsReached[EMPTY_WORD] = 1L << (NAMES * firstName + secondName);
        for (int word = 0; word < EXTENDABLE_WORDS; word++) {
            for (int a = 0; a < EVENTS; a++) {
                int longer = append(word, a);
                pairsReached[longer] = stepPairs(pairsReached[word], a);
            }
        }
        for (int word = 0; word < WORDS; word++) {
            systemFailures[word] = refusalsOfPairs(pairsReached[word]);
        }
    }

    private void joinRefusals() {
        for (int p = 0; p < NAMES; p++) {
            for (int q = 0; q < NAMES; q++) {
                pairRefusals[NAMES * p + q] = unitedRefusals(termOf[p], termOf[q]);
            }
        }
    }

    /** All Y united with Z, Y refused by the one term, Z by the other, that differ within A alone. */
    private int unitedRefusals(int oneTerm, int otherTerm) {
        int refusals = 0;
        for (int y = 0; y < SETS; y++) {
            for (int z = 0; z < SETS; z++) {
                boolean sameOutside = ((y ^ z) & ~sharedEvents) == 0;
                if (sameOutside && hasBit(oneTerm, y) && hasBit(otherTerm, z)) {
                    refusals |= 1 << (y | z);
                }
            }
        }
        return refusals;
    }

    private long stepPairs(long pairs, int a) {
        long next = 0;
        for (int p = 0; p < NAMES; p++) {
            for (int q = 0; q < NAMES; q++) {
                if (hasPair(pairs, p, q)) {
                    next |= pairsAfter(p, q, a);
                }
            }
        }
        return next;
    }

    private long pairsAfter(int p, int q, int a) {
        int nextOfP = namesAfter(p, a);
        int nextOfQ = namesAfter(q, a);
        if (hasBit(sharedEvents, a)) {
            return allPairs(nextOfP, nextOfQ);
        }
        return allPairs(nextOfP, 1 << q) | allPairs(1 << p, nextOfQ);
    }

    private static long allPairs(int ps, int qs) {
        long pairs = 0;
        for (int p = 0; p < NAMES; p++) {
            if ((ps & (1 << p)) != 0) {
                pairs |= (long) qs << (NAMES * p);
            }
        }
        return pairs;
    }

    private static boolean hasPair(long pairs, int p, int q) {
        return ((pairs >>> (NAMES * p + q)) & 1L) != 0;
    }

    private int refusalsOfPairs(long pairs) {
        int refusals = 0;
        for (int p = 0; p < NAMES; p++) {
            for (int q = 0; q < NAMES; q++) {
                if (hasPair(pairs, p, q)) {
                    refusals |= pairRefusals[NAMES * p + q];
                }
            }
        }
        return refusals;
    }
}

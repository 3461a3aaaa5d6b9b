import java.util.ArrayDeque;
import java.util.ArrayList;
import java.util.Deque;
import java.util.HashMap;
import java.util.List;
import java.util.Map;

/**
 * The document word by word, with terms as trees and words as strings, for comparison with the
 * class: slow, and in nothing like it inside.
 */
final class CspModel {
    private static final int BAD_ARG = -1;
    private static final int FULL = -2;
    private static final int TOO_FEW = -3;
    private static final int NONE = -4;

    private record Term(char kind, int a, int k, Term left, Term right) { }

    private static final Term STOP = new Term('s', 0, 0, null, null);
    private static final List<String> WORDS = wordsInOrder();

    private final Deque<Term> stack = new ArrayDeque<>();
    private final Term[] named = new Term[8];
    private int i = 0;
    private int j = 0;
    private int shared = 7;
    private String log = "";

    private final Map<String, Boolean> knownOfNames = new HashMap<>();
    private final Map<String, Boolean> knownOfSystem = new HashMap<>();

    CspModel() {
        for (int k = 0; k < 8; k++) {
            named[k] = STOP;
        }
    }

    private static List<String> wordsInOrder() {
        List<String> words = new ArrayList<>();
        List<String> ofOneLength = List.of("");
        for (int len = 0; len <= 4; len++) {
            words.addAll(ofOneLength);
            List<String> longer = new ArrayList<>();
            for (String word : ofOneLength) {
                for (int a = 0; a < 3; a++) {
                    longer.add(word + a);
                }
            }
            ofOneLength = longer;
        }
        return words;
    }

    private static int code(String word) {
        int code = 0;
        for (char c : word.toCharArray()) {
            code = code * 4 + (c - '0') + 1;
        }
        return code;
    }

    private static boolean within(int value, int greatest) {
        return value >= 0 && value <= greatest;
    }

    private static boolean has(int set, int event) {
        return (set / (1 << event)) % 2 == 1;
    }

    private boolean isFailure(Term term, String word, int set) {
        switch (term.kind) {
            case 's':
                return word.isEmpty();
            case 'p':
                if (word.isEmpty()) {
                    return !has(set, term.a);
                }
                return word.charAt(0) - '0' == term.a && isFailureOfName(term.k, word.substring(1), set);
            case 'e':
                boolean left = isFailure(term.left, word, set);
                boolean right = isFailure(term.right, word, set);
                return word.isEmpty() ? left && right : left || right;
            default:
                return isFailure(term.left, word, set) || isFailure(term.right, word, set);
        }
    }

    private boolean isFailureOfName(int k, String word, int set) {
        String key = k + ":" + word + ":" + set;
        Boolean known = knownOfNames.get(key);
        if (known == null) {
            known = isFailure(named[k], word, set);
            knownOfNames.put(key, known);
        }
        return known;
    }

    private boolean isFailureOfSystem(String word, int set) {
        String key = word + ":" + set;
        Boolean known = knownOfSystem.get(key);
        if (known == null) {
            known = findParting(word, set);
            knownOfSystem.put(key, known);
        }
        return known;
    }

    private boolean findParting(String word, int set) {
        for (int parting = 0; parting < 1 << word.length(); parting++) {
            StringBuilder s = new StringBuilder();
            StringBuilder t = new StringBuilder();
            for (int place = 0; place < word.length(); place++) {
                char event = word.charAt(place);
                boolean both = has(shared, event - '0');
                if (both || has(parting, place)) {
                    s.append(event);
                }
                if (both || !has(parting, place)) {
                    t.append(event);
                }
            }
            if (findRefusals(s.toString(), t.toString(), set)) {
                return true;
            }
        }
        return false;
    }

    private boolean findRefusals(String s, String t, int set) {
        for (int y = 0; y < 8; y++) {
            for (int z = 0; z < 8; z++) {
                if ((y | z) == set && sameOutsideShared(y, z)
                        && isFailureOfName(i, s, y) && isFailureOfName(j, t, z)) {
                    return true;
                }
            }
        }
        return false;
    }

    private boolean sameOutsideShared(int y, int z) {
        for (int a = 0; a < 3; a++) {
            if (!has(shared, a) && has(y, a) != has(z, a)) {
                return false;
            }
        }
        return true;
    }

    private boolean isTrace(String word) {
        for (int set = 0; set < 8; set++) {
            if (isFailureOfSystem(word, set)) {
                return true;
            }
        }
        return false;
    }

    private boolean isTraceOfName(int k, String word) {
        for (int set = 0; set < 8; set++) {
            if (isFailureOfName(k, word, set)) {
                return true;
            }
        }
        return false;
    }

    private int leastExcess(int k, String word) {
        for (int set = 0; set < 8; set++) {
            if (isFailureOfSystem(word, set) && !isFailureOfName(k, word, set)) {
                return set;
            }
        }
        return NONE;
    }

    private String firstGap(int k, int kind) {
        for (String word : WORDS) {
            boolean isGap = kind == 0
                ? isTrace(word) && !isTraceOfName(k, word)
                : leastExcess(k, word) != NONE;
            if (isGap) {
                return word;
            }
        }
        return null;
    }

    private int push(Term term) {
        if (stack.size() == 6) {
            return FULL;
        }
        stack.push(term);
        return stack.size();
    }

    private int combine(char kind) {
        if (stack.size() < 2) {
            return TOO_FEW;
        }
        Term right = stack.pop();
        Term left = stack.pop();
        stack.push(new Term(kind, 0, 0, left, right));
        return stack.size();
    }

    int stop() {
        return push(STOP);
    }

    int pre(int a, int k) {
        return within(a, 2) && within(k, 7) ? push(new Term('p', a, k, null, null)) : BAD_ARG;
    }

    int ext() {
        return combine('e');
    }

    int hid() {
        return combine('h');
    }

    int depth() {
        return stack.size();
    }

    int define(int k) {
        if (!within(k, 7)) {
            return BAD_ARG;
        }
        if (stack.isEmpty()) {
            return TOO_FEW;
        }
        named[k] = stack.pop();
        log = "";
        knownOfNames.clear();
        knownOfSystem.clear();
        return stack.size();
    }

    int system(int newI, int newJ, int newShared) {
        if (!within(newI, 7) || !within(newJ, 7) || !within(newShared, 7)) {
            return BAD_ARG;
        }
        i = newI;
        j = newJ;
        shared = newShared;
        log = "";
        knownOfSystem.clear();
        return 0;
    }

    int feed(int a) {
        if (!within(a, 2)) {
            return BAD_ARG;
        }
        if (log.length() == 4) {
            return FULL;
        }
        if (!isTrace(log + a)) {
            return NONE;
        }
        log += a;
        return log.length();
    }

    int undo() {
        if (log.isEmpty()) {
            return NONE;
        }
        int last = log.charAt(log.length() - 1) - '0';
        log = log.substring(0, log.length() - 1);
        return last;
    }

    int log() {
        return code(log);
    }

    int offers() {
        int set = 0;
        for (int a = 0; a < 3 && log.length() < 4; a++) {
            set += isTrace(log + a) ? 1 << a : 0;
        }
        return set;
    }

    boolean refuses(int set) {
        return within(set, 7) && isFailureOfSystem(log, set);
    }

    int traces(int len) {
        if (!within(len, 4)) {
            return BAD_ARG;
        }
        int count = 0;
        for (String word : WORDS) {
            count += word.length() == len && isTrace(word) ? 1 : 0;
        }
        return count;
    }

    int gap(int k, int kind) {
        if (!within(k, 7) || !within(kind, 1)) {
            return BAD_ARG;
        }
        String word = firstGap(k, kind);
        return word == null ? NONE : code(word);
    }

    int gapRefusal(int k) {
        if (!within(k, 7)) {
            return BAD_ARG;
        }
        String word = firstGap(k, 1);
        return word == null ? NONE : leastExcess(k, word);
    }

    int refined(int kind) {
        if (!within(kind, 1)) {
            return BAD_ARG;
        }
        int count = 0;
        for (int k = 0; k < 8; k++) {
            count += firstGap(k, kind) == null ? 1 : 0;
        }
        return count;
    }

    int deadlock() {
        for (String word : WORDS) {
            if (isFailureOfSystem(word, 7)) {
                return code(word);
            }
        }
        return NONE;
    }

    int unsure() {
        for (String word : WORDS) {
            if (!word.isEmpty() && isTrace(word)) {
                int last = word.charAt(word.length() - 1) - '0';
                if (isFailureOfSystem(word.substring(0, word.length() - 1), 1 << last)) {
                    return code(word);
                }
            }
        }
        return NONE;
    }
}

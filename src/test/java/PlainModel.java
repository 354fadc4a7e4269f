import java.util.ArrayList;
import java.util.HashSet;
import java.util.List;
import java.util.Set;

/**
 * The document a second time, as slowly and plainly as can be: texts are strings, everything is
 * worked out anew at each call, one input after the other. AgainstPlainTest holds the class to it.
 */
final class PlainModel {
    static final int UNKNOWN = -1, OUTSIDE = -2, STATE = -3, FULL = -4, NO = -5, NONE = -6;

    private String pad = "";
    private final String[] texts = {"0", "0"};
    private final List<int[]> tests = new ArrayList<>();
    private int[][] changeResults = null;

    // ---- a text, worked out by going through its string

    /** The place after the text that begins at a place; -1 - place of the fault, if there is one. */
    private static int end(String s, int at, int within) {
        if (at >= s.length()) {
            return -1 - s.length();
        }
        int wanted = wanted(s.charAt(at));
        if (wanted < 0 || (wanted > 0 && within == 9)) {
            return -1 - at;
        }
        int next = at + 1;
        for (int i = 0; i < wanted; i++) {
            next = end(s, next, within + 1);
            if (next < 0) {
                return next;
            }
        }
        return next;
    }

    private static int wanted(char sign) {
        if ("+-*mM".indexOf(sign) >= 0) {
            return 2;
        }
        if ("<>=".indexOf(sign) >= 0) {
            return 4;
        }
        return "abc01234567".indexOf(sign) >= 0 ? 0 : -1;
    }

    private static int[] partsAt(String s, int at) {
        int[] parts = new int[wanted(s.charAt(at))];
        int next = at + 1;
        for (int i = 0; i < parts.length; i++) {
            parts[i] = next;
            next = end(s, next, 0);
        }
        return parts;
    }

    private static int value(String s, int at, int inputs, Set<Integer> run) {
        run.add(at);
        char sign = s.charAt(at);
        int[] parts = partsAt(s, at);
        if (parts.length == 0) {
            switch (sign) {
                case 'a': return inputs / 64;
                case 'b': return inputs / 8 % 8;
                case 'c': return inputs % 8;
                default: return sign - '0';
            }
        }
        int x = value(s, parts[0], inputs, run);
        int y = value(s, parts[1], inputs, run);
        switch (sign) {
            case '+': return (x + y) % 8;
            case '-': return (x - y + 8) % 8;
            case '*': return x * y % 8;
            case 'm': return Math.min(x, y);
            case 'M': return Math.max(x, y);
            case '<': return value(s, x < y ? parts[2] : parts[3], inputs, run);
            case '>': return value(s, x > y ? parts[2] : parts[3], inputs, run);
            default: return value(s, x == y ? parts[2] : parts[3], inputs, run);
        }
    }

    private static int value(String s, int inputs) {
        return value(s, 0, inputs, new HashSet<>());
    }

    // ---- changes

    private static List<String> changed(String s) {
        List<String> all = new ArrayList<>();
        for (int at = 0; at < s.length(); at++) {
            for (char sign : newSigns(s.charAt(at)).toCharArray()) {
                all.add(s.substring(0, at) + sign + s.substring(at + 1));
            }
        }
        return all;
    }

    private static String newSigns(char sign) {
        if (sign >= '0' && sign <= '7') {
            return "12345670".charAt(sign - '0') + "" + "70123456".charAt(sign - '0');
        }
        for (String kind : new String[] {"+-*mM", "<>=", "abc"}) {
            if (kind.indexOf(sign) >= 0) {
                return kind.replace("" + sign, "");
            }
        }
        throw new IllegalStateException("no sign of a text: " + sign);
    }

    private static int[] row(String s) {
        int[] row = new int[512];
        for (int inputs = 0; inputs < 512; inputs++) {
            row[inputs] = value(s, inputs);
        }
        return row;
    }

    /** Row 0 is TEXT 0, row 1 and i that of CHANGE i; kept, since it is the one dear thing here. */
    private int[][] rows() {
        if (changeResults == null) {
            List<String> all = changed(texts[0]);
            changeResults = new int[all.size() + 1][];
            changeResults[0] = row(texts[0]);
            for (int i = 0; i < all.size(); i++) {
                changeResults[i + 1] = row(all.get(i));
            }
        }
        return changeResults;
    }

    private int changes() {
        return rows().length - 1;
    }

    private boolean feels(int change, int inputs) {
        return rows()[change + 1][inputs] != rows()[0][inputs];
    }

    private int felt(int change) {
        int many = 0;
        for (int inputs = 0; inputs < 512; inputs++) {
            many += feels(change, inputs) ? 1 : 0;
        }
        return many;
    }

    private Set<Integer> noticing(int change) {
        Set<Integer> set = new HashSet<>();
        for (int t = 0; t < tests.size(); t++) {
            if (feels(change, tests.get(t)[0])) {
                set.add(t);
            }
        }
        return set;
    }

    private List<Set<Integer>> allNoticing() {
        List<Set<Integer>> all = new ArrayList<>();
        for (int i = 0; i < changes(); i++) {
            all.add(noticing(i));
        }
        return all;
    }

    private int behind(int change) {
        List<Set<Integer>> all = allNoticing();
        int many = 0;
        for (Set<Integer> other : all) {
            Set<Integer> mine = all.get(change);
            if (!other.isEmpty() && mine.containsAll(other) && mine.size() > other.size()) {
                many++;
            }
        }
        return many;
    }

    private static int bits(Set<Integer> set) {
        int bits = 0;
        for (int one : set) {
            bits |= 1 << one;
        }
        return bits;
    }

    private static int fraction(int upper, int lower, int part) {
        if (lower == 0 || upper == 0) {
            return part == 0 ? 0 : 1;
        }
        int divisor = 1;
        for (int d = 1; d <= lower; d++) {
            if (upper % d == 0 && lower % d == 0) {
                divisor = d;
            }
        }
        return (part == 0 ? upper : lower) / divisor;
    }

    // ---- the face

    int say(int sign) {
        if (sign < 33 || sign > 126) {
            return OUTSIDE;
        }
        if (pad.length() == 40) {
            return FULL;
        }
        pad += (char) sign;
        return pad.length();
    }

    int wipe() {
        int many = pad.length();
        pad = "";
        return many;
    }

    int fault() {
        int end = end(pad, 0, 0);
        return end < 0 ? -1 - end : end < pad.length() ? end : NONE;
    }

    int read(int text) {
        if (text != 0 && text != 1) {
            return UNKNOWN;
        }
        if (fault() != NONE) {
            return NO;
        }
        if (pad.length() > 24) {
            return FULL;
        }
        texts[text] = pad;
        pad = "";
        changeResults = null;
        return texts[text].length();
    }

    int node(int text, int node, int what) {
        if ((text != 0 && text != 1) || node < 0 || node >= texts[text].length()) {
            return UNKNOWN;
        }
        String s = texts[text];
        switch (what) {
            case 0: return s.charAt(node);
            case 1:
                for (int at = 0; at < node; at++) {
                    for (int part : partsAt(s, at)) {
                        if (part == node) {
                            return at;
                        }
                    }
                }
                return NONE;
            case 2: return end(s, node, 0) - node;
            default: return OUTSIDE;
        }
    }

    int result(int text, int inputs) {
        if (text != 0 && text != 1) {
            return UNKNOWN;
        }
        return inputs < 0 || inputs > 511 ? OUTSIDE : value(texts[text], inputs);
    }

    int runs(int text, int inputs) {
        if (text != 0 && text != 1) {
            return UNKNOWN;
        }
        if (inputs < 0 || inputs > 511) {
            return OUTSIDE;
        }
        Set<Integer> run = new HashSet<>();
        value(texts[text], 0, inputs, run);
        return bits(run);
    }

    int change(int i, int what) {
        if (i == -1) {
            return changes();
        }
        if (i < 0 || i >= changes()) {
            return UNKNOWN;
        }
        String by = changed(texts[0]).get(i);
        int at = 0;
        while (by.charAt(at) == texts[0].charAt(at)) {
            at++;
        }
        switch (what) {
            case 0: return at;
            case 1: return by.charAt(at);
            case 2: return felt(i);
            case 3: return noticing(i).isEmpty() ? 0 : 1;
            case 4: return bits(noticing(i));
            case 5: return behind(i);
            default: return OUTSIDE;
        }
    }

    int by(int change, int inputs) {
        if (change < 0 || change >= changes()) {
            return UNKNOWN;
        }
        return inputs < 0 || inputs > 511 ? OUTSIDE : rows()[change + 1][inputs];
    }

    int test(int inputs, int due) {
        if (inputs < 0 || inputs > 511 || due < 0 || due > 7) {
            return OUTSIDE;
        }
        if (tests.size() == 14) {
            return FULL;
        }
        tests.add(new int[] {inputs, due});
        return tests.size() - 1;
    }

    int drop(int test) {
        return test < 0 || test >= tests.size() ? UNKNOWN : tests.remove(test)[0];
    }

    private boolean fails(int test, int row) {
        return rows()[row][tests.get(test)[0]] != tests.get(test)[1];
    }

    int of(int test, int what) {
        if (test < 0 || test >= tests.size()) {
            return UNKNOWN;
        }
        switch (what) {
            case 0: return tests.get(test)[0];
            case 1: return tests.get(test)[1];
            case 2: return fails(test, 0) ? 1 : 0;
            case 3:
                int many = 0;
                for (Set<Integer> set : allNoticing()) {
                    many += set.contains(test) ? 1 : 0;
                }
                return many;
            default: return OUTSIDE;
        }
    }

    int many(int what) {
        if (what < 0 || what > 3) {
            return OUTSIDE;
        }
        int many = 0;
        for (int i = 0; i < changes(); i++) {
            boolean silent = felt(i) == 0;
            boolean noticed = !noticing(i).isEmpty();
            boolean[] is = {silent, noticed, !silent && !noticed, noticed && behind(i) == 0};
            many += is[what] ? 1 : 0;
        }
        return many;
    }

    int score(int part) {
        return part != 0 && part != 1 ? OUTSIDE : fraction(many(1), changes() - many(0), part);
    }

    int fewest(int what) {
        if (what != 0 && what != 1) {
            return OUTSIDE;
        }
        int best = (1 << tests.size()) - 1;
        for (int set = best; set >= 0; set--) {
            boolean all = true;
            for (Set<Integer> noticing : allNoticingOnce()) {
                all = all && (noticing.isEmpty() || (bits(noticing) & set) != 0);
            }
            if (all && Integer.bitCount(set) <= Integer.bitCount(best)) {
                best = set;
            }
        }
        return what == 0 ? best : Integer.bitCount(best);
    }

    private List<Set<Integer>> allNoticingOnce() {
        return noticingOnce;
    }

    private List<Set<Integer>> noticingOnce = new ArrayList<>();

    /** What fewest and soon look at over and over again. */
    void prepare() {
        noticingOnce = allNoticing();
    }

    int soon(int i) {
        bestOrder = null;
        bestSum = Integer.MAX_VALUE;
        tryOrders(new ArrayList<>(), 0);
        if (i == -1) {
            return bestSum;
        }
        return i < 0 || i >= tests.size() ? NONE : bestOrder.get(i);
    }

    private List<Integer> bestOrder;
    private int bestSum;

    /** All orders, the first by numbers first; a sum that is no less already is not gone on with. */
    private void tryOrders(List<Integer> order, int sum) {
        if (sum >= bestSum) {
            return;
        }
        if (order.size() == tests.size()) {
            bestOrder = new ArrayList<>(order);
            bestSum = sum;
            return;
        }
        for (int t = 0; t < tests.size(); t++) {
            if (!order.contains(t)) {
                int first = 0;
                int rest = 0;
                for (Set<Integer> noticing : allNoticingOnce()) {
                    boolean before = false;
                    for (int earlier : order) {
                        before = before || noticing.contains(earlier);
                    }
                    first += !before && noticing.contains(t) ? 1 : 0;
                    rest += !before && !noticing.isEmpty() && !noticing.contains(t) ? 1 : 0;
                }
                // Those that wait still come one place later at least.
                int added = first * order.size();
                if (sum + added + rest * (order.size() + 1) < bestSum) {
                    order.add(t);
                    tryOrders(order, sum + added);
                    order.remove(order.size() - 1);
                }
            }
        }
    }

    int wished(int what) {
        if (what != 0 && what != 1) {
            return OUTSIDE;
        }
        List<Integer> hidden = new ArrayList<>();
        for (int i = 0; i < changes(); i++) {
            if (felt(i) > 0 && noticing(i).isEmpty()) {
                hidden.add(i);
            }
        }
        int best = NONE;
        int most = 0;
        for (int inputs = 511; inputs >= 0; inputs--) {
            int many = 0;
            for (int i : hidden) {
                many += feels(i, inputs) ? 1 : 0;
            }
            if (!hidden.isEmpty() && many >= most) {
                best = inputs;
                most = many;
            }
        }
        return what == 0 ? best : most;
    }

    private int[] blameOf(int node) {
        int failing = 0, others = 0, f = 0, p = 0;
        for (int t = 0; t < tests.size(); t++) {
            boolean ran = (runs(0, tests.get(t)[0]) >> node & 1) == 1;
            if (fails(t, 0)) {
                failing++;
                f += ran ? 1 : 0;
            } else {
                others++;
                p += ran ? 1 : 0;
            }
        }
        if (failing == 0) {
            return new int[] {0, 1};
        }
        return others == 0 ? new int[] {f, failing} : new int[] {f * others, f * others + p * failing};
    }

    int blame(int node, int part) {
        if (node < 0 || node >= texts[0].length()) {
            return UNKNOWN;
        }
        int[] blame = blameOf(node);
        return part != 0 && part != 1 ? OUTSIDE : fraction(blame[0], blame[1], part);
    }

    int rank(int i) {
        List<Integer> nodes = new ArrayList<>();
        for (int node = 0; node < texts[0].length(); node++) {
            nodes.add(node);
        }
        nodes.sort((x, y) -> {
            long one = (long) blame(x, 0) * blame(y, 1);
            long other = (long) blame(y, 0) * blame(x, 1);
            return one != other ? Long.compare(other, one) : Integer.compare(x, y);
        });
        return i < 0 || i >= nodes.size() ? NONE : nodes.get(i);
    }

    private boolean anyFails(int row) {
        boolean any = false;
        for (int t = 0; t < tests.size(); t++) {
            any = any || fails(t, row);
        }
        return any;
    }

    int mend(int i) {
        if (!anyFails(0)) {
            return STATE;
        }
        List<Integer> mends = new ArrayList<>();
        Set<String> kinds = new HashSet<>();
        for (int change = 0; change < changes(); change++) {
            if (!anyFails(change + 1)) {
                mends.add(change);
                kinds.add(java.util.Arrays.toString(rows()[change + 1]));
            }
        }
        if (i == -1) {
            return mends.size();
        }
        return i == -2 ? kinds.size() : i < 0 || i >= mends.size() ? NONE : mends.get(i);
    }

    private boolean part(int inputs) {
        return value(texts[0], inputs) != value(texts[1], inputs);
    }

    int parts(int what) {
        if (what != 0 && what != 1) {
            return OUTSIDE;
        }
        int many = 0;
        int least = NONE;
        for (int together = 21; together >= 0; together--) {
            for (int inputs = 511; inputs >= 0; inputs--) {
                if (inputs / 64 + inputs / 8 % 8 + inputs % 8 == together && part(inputs)) {
                    many++;
                    least = inputs;
                }
            }
        }
        return what == 0 ? many : least;
    }

    int less(int inputs, int what) {
        if (inputs < 0 || inputs > 511 || (what != 0 && what != 1)) {
            return OUTSIDE;
        }
        if (!part(inputs)) {
            return STATE;
        }
        int at = inputs;
        int steps = 0;
        boolean went = true;
        while (went) {
            int a = at / 64, b = at / 8 % 8, c = at % 8;
            int[] ways = {
                64 * a + 8 * b, 64 * a + c, 8 * b + c,
                64 * a + 8 * b + c / 2, 64 * a + 8 * (b / 2) + c, 64 * (a / 2) + 8 * b + c,
                c == 0 ? at : at - 1, b == 0 ? at : at - 8, a == 0 ? at : at - 64};
            went = false;
            for (int i = 0; i < 9 && !went; i++) {
                if (ways[i] != at && part(ways[i])) {
                    at = ways[i];
                    steps++;
                    went = true;
                }
            }
        }
        return what == 0 ? at : steps;
    }

    int told(int what) {
        switch (what) {
            case 0: return pad.length();
            case 1: return texts[0].length();
            case 2: return texts[1].length();
            case 3: return tests.size();
            case 4:
                int many = 0;
                for (int t = 0; t < tests.size(); t++) {
                    many += fails(t, 0) ? 1 : 0;
                }
                return many;
            default: return OUTSIDE;
        }
    }
}

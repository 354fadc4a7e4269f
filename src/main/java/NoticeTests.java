/**
 * Tests that would notice: small TEXTS over three INPUTS, every CHANGE of one sign of TEXT 0, and
 * which TESTS notice which CHANGE. The words in capitals are those of the document.
 */
public final class NoticeTests {
    public static final int UNKNOWN = -1, OUTSIDE = -2, STATE = -3, FULL = -4, NO = -5, NONE = -6;

    private static final int LEAST_SIGN = 33;
    private static final int GREATEST_SIGN = 126;
    private static final int MOST_SIGNS = 40;
    private static final int MOST_NODES = 24;
    private static final int MOST_TESTS = 14;
    private static final int DEEPEST = 9;
    private static final int ALL_INPUTS = 512;
    private static final int NUMBERS = 8;

    /** A REL has the most parts. */
    private static final int MOST_PARTS = 4;
    /** An ACT has the most CHANGES, four. */
    private static final int MOST_CHANGES = 4 * MOST_NODES;

    /** INPUTS are worked out 64 at once, one for each bit of a long. */
    private static final int WORDS = 8;
    private static final int WORD_BITS = 64;

    /** TEXTS 0 and 1, and their rows of Results; those by each CHANGE come behind them. */
    private static final int FIRST = 0;
    private static final int SECOND = 1;
    private static final int CHANGE_ROWS = 2;

    private static final String ACTS = "+-*mM";
    private static final String RELS = "<>=";
    private static final String LETTERS = "abc";

    private final Pad pad;
    private final Text[] texts;
    private final Worker worker;
    private final Results results;
    private final Changes changes;
    private final Tests tests;
    private final Notices notices;
    private final Fewer fewer;
    private final Blames blames;
    private final Mends mends;
    private final Parting parting;

    public NoticeTests() {
        pad = new Pad();
        texts = new Text[] {new Text(), new Text()};
        worker = new Worker();
        results = new Results(worker);
        changes = new Changes(results);
        tests = new Tests(results);
        notices = new Notices(changes, tests, results);
        fewer = new Fewer(changes, tests, notices);
        blames = new Blames(tests, worker);
        mends = new Mends(changes, tests, results);
        parting = new Parting(results);
        settleText(FIRST);
        settleText(SECOND);
    }

    // ---- 1 texts

    public int say(int sign) {
        if (sign < LEAST_SIGN || sign > GREATEST_SIGN) {
            return OUTSIDE;
        }
        if (pad.count >= MOST_SIGNS) {
            return FULL;
        }
        pad.signs[pad.count] = sign;
        pad.count++;
        return pad.count;
    }

    public int wipe() {
        int before = pad.count;
        pad.count = 0;
        return before;
    }

    public int fault() {
        return pad.firstFault();
    }

    public int read(int text) {
        if (!isText(text)) {
            return UNKNOWN;
        }
        if (pad.firstFault() != NONE) {
            return NO;
        }
        if (pad.count > MOST_NODES) {
            return FULL;
        }
        texts[text].take(pad.signs, pad.count);
        pad.count = 0;
        settleText(text);
        return texts[text].count;
    }

    public int node(int text, int node, int what) {
        if (!isText(text) || node < 0 || node >= texts[text].count) {
            return UNKNOWN;
        }
        switch (what) {
            case 0: return texts[text].signs[node];
            case 1: return texts[text].owners[node];
            case 2: return texts[text].spans[node];
            default: return OUTSIDE;
        }
    }

    public int result(int text, int inputs) {
        if (!isText(text)) {
            return UNKNOWN;
        }
        return isInputs(inputs) ? results.at(text, inputs) : OUTSIDE;
    }

    public int runs(int text, int inputs) {
        if (!isText(text)) {
            return UNKNOWN;
        }
        return isInputs(inputs) ? worker.nodesRun(texts[text], inputs) : OUTSIDE;
    }

    // ---- 2 changes, tests

    public int change(int i, int what) {
        if (i == -1) {
            return changes.count;
        }
        if (!isChange(i)) {
            return UNKNOWN;
        }
        switch (what) {
            case 0: return changes.nodes[i];
            case 1: return changes.signs[i];
            case 2: return changes.felt[i];
            case 3: return notices.bits[i] != 0 ? 1 : 0;
            case 4: return notices.bits[i];
            case 5: return notices.behindHowMany(i);
            default: return OUTSIDE;
        }
    }

    public int by(int change, int inputs) {
        if (!isChange(change)) {
            return UNKNOWN;
        }
        return isInputs(inputs) ? results.at(CHANGE_ROWS + change, inputs) : OUTSIDE;
    }

    public int test(int inputs, int due) {
        if (!isInputs(inputs) || due < 0 || due >= NUMBERS) {
            return OUTSIDE;
        }
        if (tests.count >= MOST_TESTS) {
            return FULL;
        }
        tests.append(inputs, due);
        settleNotices();
        return tests.count - 1;
    }

    public int drop(int test) {
        if (!isTest(test)) {
            return UNKNOWN;
        }
        int inputs = tests.inputs[test];
        tests.remove(test);
        settleNotices();
        return inputs;
    }

    public int of(int test, int what) {
        if (!isTest(test)) {
            return UNKNOWN;
        }
        switch (what) {
            case 0: return tests.inputs[test];
            case 1: return tests.dues[test];
            case 2: return tests.failsFor(test, FIRST) ? 1 : 0;
            case 3: return notices.howManyNoticedBy(test);
            default: return OUTSIDE;
        }
    }

    public int many(int what) {
        switch (what) {
            case 0: return changes.silentOnes();
            case 1: return notices.noticedOnes();
            case 2: return notices.hiddenOnes();
            case 3: return notices.frontOnes();
            default: return OUTSIDE;
        }
    }

    public int score(int part) {
        if (!isPart(part)) {
            return OUTSIDE;
        }
        return inLowestTerms(notices.noticedOnes(), changes.count - changes.silentOnes(), part);
    }

    // ---- 3 fewer tests

    public int fewest(int what) {
        switch (what) {
            case 0: return fewer.leastSet();
            case 1: return Integer.bitCount(fewer.leastSet());
            default: return OUTSIDE;
        }
    }

    public int soon(int i) {
        if (i == -1) {
            return fewer.leastSum();
        }
        return isTest(i) ? fewer.testAtPlace(i) : NONE;
    }

    public int wished(int what) {
        if (what != 0 && what != 1) {
            return OUTSIDE;
        }
        notices.findWished();
        return what == 0 ? notices.wishedInputs : notices.wishedMany;
    }

    // ---- 4 blame, mends

    public int blame(int node, int part) {
        if (!isNodeOfFirst(node)) {
            return UNKNOWN;
        }
        if (!isPart(part)) {
            return OUTSIDE;
        }
        blames.weigh(texts[FIRST]);
        return inLowestTerms(blames.uppers[node], blames.lowers[node], part);
    }

    public int rank(int i) {
        if (!isNodeOfFirst(i)) {
            return NONE;
        }
        blames.weigh(texts[FIRST]);
        return blames.nodeAtPlace(i, texts[FIRST].count);
    }

    public int mend(int i) {
        if (tests.failing() == 0) {
            return STATE;
        }
        mends.find();
        if (i == -1) {
            return mends.count;
        }
        if (i == -2) {
            return mends.kinds();
        }
        return i >= 0 && i < mends.count ? mends.found[i] : NONE;
    }

    // ---- 5 parting inputs

    public int parts(int what) {
        switch (what) {
            case 0: return results.unlikeMany(FIRST, SECOND);
            case 1: return parting.leastInputs();
            default: return OUTSIDE;
        }
    }

    public int less(int inputs, int what) {
        if (!isInputs(inputs) || (what != 0 && what != 1)) {
            return OUTSIDE;
        }
        if (!parting.isAt(inputs)) {
            return STATE;
        }
        parting.goDown(inputs);
        return what == 0 ? parting.lowest : parting.steps;
    }

    public int told(int what) {
        switch (what) {
            case 0: return pad.count;
            case 1: return texts[FIRST].count;
            case 2: return texts[SECOND].count;
            case 3: return tests.count;
            case 4: return tests.failing();
            default: return OUTSIDE;
        }
    }

    // ---- what keeps the rest in step

    private void settleText(int text) {
        results.workOutText(text, texts[text]);
        if (text == FIRST) {
            changes.list(texts[text]);
            settleNotices();
        }
    }

    private void settleNotices() {
        notices.settle();
        fewer.forget();
    }

    private boolean isText(int text) {
        return text == FIRST || text == SECOND;
    }

    private boolean isNodeOfFirst(int node) {
        return node >= 0 && node < texts[FIRST].count;
    }

    private boolean isChange(int change) {
        return change >= 0 && change < changes.count;
    }

    private boolean isTest(int test) {
        return test >= 0 && test < tests.count;
    }

    private static boolean isInputs(int inputs) {
        return inputs >= 0 && inputs < ALL_INPUTS;
    }

    private static boolean isPart(int part) {
        return part == 0 || part == 1;
    }

    private static int inLowestTerms(int upper, int lower, int part) {
        int divisor = commonDivisor(upper, lower);
        if (upper == 0 || divisor == 0) {
            return part == 0 ? 0 : 1;
        }
        return (part == 0 ? upper : lower) / divisor;
    }

    private static int commonDivisor(int one, int other) {
        int divisor = one;
        int rest = other;
        for (int turn = 0; turn < WORD_BITS && rest != 0; turn++) {
            int next = divisor % rest;
            divisor = rest;
            rest = next;
        }
        return divisor;
    }

    /** The signs laid so far, and where they stop being a TEXT. */
    private static final class Pad {
        final int[] signs = new int[MOST_SIGNS];
        int count = 0;
        /** By how many others a TEXT lies within: how many TEXTS must still come there. */
        private final int[] lacking = new int[DEEPEST + 1];

        int firstFault() {
            int depth = 0;
            lacking[0] = 1;
            for (int place = 0; place < count; place++) {
                depth = deepestLack(depth);
                if (depth < 0 || !mayStand(signs[place], depth)) {
                    return place;
                }
                lacking[depth]--;
                int wanted = Text.partsWanted(signs[place]);
                if (wanted > 0) {
                    depth++;
                    lacking[depth] = wanted;
                }
            }
            return deepestLack(depth) < 0 ? NONE : count;
        }

        private int deepestLack(int from) {
            int depth = from;
            while (depth >= 0 && lacking[depth] == 0) {
                depth--;
            }
            return depth;
        }

        private static boolean mayStand(int sign, int depth) {
            int wanted = Text.partsWanted(sign);
            return wanted == 0 || (wanted > 0 && depth < DEEPEST);
        }
    }

    /** A TEXT as its NODES, in the order in which they are written. */
    private static final class Text {
        final int[] signs = new int[MOST_NODES];
        /** How many parts a NODE has; no CHANGE of its sign makes it another number. */
        final int[] wanted = new int[MOST_NODES];
        /** The NODE whose part it is. */
        final int[] owners = new int[MOST_NODES];
        /** Which part of its owner it is, from 0 on. */
        final int[] places = new int[MOST_NODES];
        final int[] spans = new int[MOST_NODES];
        final int[] partNodes = new int[MOST_PARTS * MOST_NODES];
        int count = 1;

        Text() {
            signs[0] = '0';
            owners[0] = NONE;
            spans[0] = 1;
        }

        /** The signs must be without FAULT and at most MOST_NODES. */
        void take(int[] written, int number) {
            count = number;
            System.arraycopy(written, 0, signs, 0, number);
            // Backwards, since the span of a NODE needs those of its parts, which come later.
            for (int node = number - 1; node >= 0; node--) {
                joinParts(node);
            }
        }

        private void joinParts(int node) {
            int next = node + 1;
            wanted[node] = partsWanted(signs[node]);
            for (int place = 0; place < wanted[node] && next < count; place++) {
                partNodes[MOST_PARTS * node + place] = next;
                owners[next] = node;
                places[next] = place;
                next += spans[next];
            }
            spans[node] = next - node;
        }

        int partOf(int node, int place) {
            return partNodes[MOST_PARTS * node + place];
        }

        /** How many TEXTS must follow a sign; -1 for a sign that no TEXT has. */
        static int partsWanted(int sign) {
            if (ACTS.indexOf((char) sign) >= 0) {
                return 2;
            }
            if (RELS.indexOf((char) sign) >= 0) {
                return MOST_PARTS;
            }
            return isNumber(sign) || LETTERS.indexOf((char) sign) >= 0 ? 0 : -1;
        }

        static boolean isNumber(int sign) {
            return sign >= '0' && sign < '0' + NUMBERS;
        }
    }

    /**
     * Works out the NODES of a TEXT for 64 INPUTS at once: those with one a, which is the word's
     * number. A number of three bits is held in three longs, a bit of each for one of the INPUTS;
     * so all 512 INPUTS take eight rounds, and every CHANGE can be run on all of them.
     */
    private static final class Worker {
        // The bits of 8 b and c, which together are the place of INPUTS within a word.
        private static final long C_LOW = 0xAAAAAAAAAAAAAAAAL;
        private static final long C_MID = 0xCCCCCCCCCCCCCCCCL;
        private static final long C_HIGH = 0xF0F0F0F0F0F0F0F0L;
        private static final long B_LOW = 0xFF00FF00FF00FF00L;
        private static final long B_MID = 0xFFFF0000FFFF0000L;
        private static final long B_HIGH = 0xFFFFFFFF00000000L;

        final long[] low = new long[MOST_NODES];
        final long[] mid = new long[MOST_NODES];
        final long[] high = new long[MOST_NODES];
        /** Of a REL: for which INPUTS the third TEXT is taken. */
        private final long[] holds = new long[MOST_NODES];

        /** The NODE changed has the sign given, all others their own; none is changed by NONE. */
        void workOut(Text text, int changed, int sign, int word) {
            // Backwards, since the parts of a NODE come later than the NODE.
            for (int node = text.count - 1; node >= 0; node--) {
                int own = node == changed ? sign : text.signs[node];
                switch (text.wanted[node]) {
                    case 0: putLeaf(node, own, word); break;
                    case 2: putAct(node, own, text.partOf(node, 0), text.partOf(node, 1)); break;
                    default: putRel(text, node, own); break;
                }
            }
        }

        private void putLeaf(int node, int sign, int word) {
            switch (sign) {
                case 'a': putNumber(node, word); break;
                case 'b': put(node, B_LOW, B_MID, B_HIGH); break;
                case 'c': put(node, C_LOW, C_MID, C_HIGH); break;
                default: putNumber(node, sign - '0'); break;
            }
        }

        private void putAct(int node, int sign, int x, int y) {
            switch (sign) {
                case '+': putSum(node, x, y); break;
                case '-': putDifference(node, x, y); break;
                case '*': putProduct(node, x, y); break;
                case 'm': putChoice(node, below(x, y), x, y); break;
                default: putChoice(node, below(x, y), y, x); break;
            }
        }

        private void putRel(Text text, int node, int sign) {
            int x = text.partOf(node, 0);
            int y = text.partOf(node, 1);
            holds[node] = sign == '<' ? below(x, y) : sign == '>' ? below(y, x) : same(x, y);
            putChoice(node, holds[node], text.partOf(node, 2), text.partOf(node, 3));
        }

        private void put(int node, long lowBits, long midBits, long highBits) {
            low[node] = lowBits;
            mid[node] = midBits;
            high[node] = highBits;
        }

        private void putNumber(int node, int number) {
            // A bit that is set becomes 64 that are.
            put(node, -(number & 1L), -((number >> 1) & 1L), -((number >> 2) & 1L));
        }

        private void putSum(int node, int x, int y) {
            long toMid = low[x] & low[y];
            long toHigh = (mid[x] & mid[y]) | ((mid[x] ^ mid[y]) & toMid);
            put(node, low[x] ^ low[y], mid[x] ^ mid[y] ^ toMid, high[x] ^ high[y] ^ toHigh);
        }

        private void putDifference(int node, int x, int y) {
            long fromMid = ~low[x] & low[y];
            long fromHigh = (~mid[x] & mid[y]) | (~(mid[x] ^ mid[y]) & fromMid);
            put(node, low[x] ^ low[y], mid[x] ^ mid[y] ^ fromMid, high[x] ^ high[y] ^ fromHigh);
        }

        private void putProduct(int node, int x, int y) {
            long one = mid[x] & low[y];
            long other = low[x] & mid[y];
            long ofHigh = (high[x] & low[y]) ^ (mid[x] & mid[y]) ^ (low[x] & high[y]);
            put(node, low[x] & low[y], one ^ other, ofHigh ^ (one & other));
        }

        private void putChoice(int node, long where, int x, int y) {
            put(node, (where & low[x]) | (~where & low[y]), (where & mid[x]) | (~where & mid[y]),
                (where & high[x]) | (~where & high[y]));
        }

        private long below(int x, int y) {
            long byLow = ~low[x] & low[y];
            long byMid = (~mid[x] & mid[y]) | (~(mid[x] ^ mid[y]) & byLow);
            return (~high[x] & high[y]) | (~(high[x] ^ high[y]) & byMid);
        }

        private long same(int x, int y) {
            return ~((low[x] ^ low[y]) | (mid[x] ^ mid[y]) | (high[x] ^ high[y]));
        }

        int nodesRun(Text text, int inputs) {
            workOut(text, NONE, 0, inputs / WORD_BITS);
            int bits = 1;
            for (int node = 1; node < text.count; node++) {
                int owner = text.owners[node];
                if (((bits >>> owner) & 1) != 0 && isTaken(text, node, inputs % WORD_BITS)) {
                    bits |= 1 << node;
                }
            }
            return bits;
        }

        private boolean isTaken(Text text, int node, int place) {
            boolean held = ((holds[text.owners[node]] >>> place) & 1L) != 0L;
            switch (text.places[node]) {
                case 2: return held;
                case 3: return !held;
                default: return true;
            }
        }
    }

    /** The RESULTS for all INPUTS: a row for each TEXT and each CHANGE, in three longs as Worker's. */
    private static final class Results {
        private static final int CELLS = (CHANGE_ROWS + MOST_CHANGES) * WORDS;

        private final long[] low = new long[CELLS];
        private final long[] mid = new long[CELLS];
        private final long[] high = new long[CELLS];
        private final Worker worker;

        Results(Worker worker) {
            this.worker = worker;
        }

        void workOutText(int row, Text text) {
            workOutChanged(row, text, NONE, 0);
        }

        void workOutChanged(int row, Text text, int changed, int sign) {
            for (int word = 0; word < WORDS; word++) {
                worker.workOut(text, changed, sign, word);
                int cell = row * WORDS + word;
                low[cell] = worker.low[0];
                mid[cell] = worker.mid[0];
                high[cell] = worker.high[0];
            }
        }

        int at(int row, int inputs) {
            int cell = row * WORDS + inputs / WORD_BITS;
            int place = inputs % WORD_BITS;
            return bitAt(low[cell], place) + 2 * bitAt(mid[cell], place) + 4 * bitAt(high[cell], place);
        }

        /** For which INPUTS of a word two rows are not the same. */
        long unlike(int row, int other, int word) {
            int one = row * WORDS + word;
            int two = other * WORDS + word;
            return (low[one] ^ low[two]) | (mid[one] ^ mid[two]) | (high[one] ^ high[two]);
        }

        boolean isUnlikeAt(int row, int other, int inputs) {
            return bitAt(unlike(row, other, inputs / WORD_BITS), inputs % WORD_BITS) != 0;
        }

        int unlikeMany(int row, int other) {
            int many = 0;
            for (int word = 0; word < WORDS; word++) {
                many += Long.bitCount(unlike(row, other, word));
            }
            return many;
        }

        static int bitAt(long bits, int place) {
            return (int) ((bits >>> place) & 1L);
        }
    }

    /** The CHANGES of TEXT 0. */
    private static final class Changes {
        final int[] nodes = new int[MOST_CHANGES];
        final int[] signs = new int[MOST_CHANGES];
        /** For how many INPUTS the RESULT is another one. */
        final int[] felt = new int[MOST_CHANGES];
        int count = 0;
        private final Results results;

        Changes(Results results) {
            this.results = results;
        }

        /** The row of TEXT 0 itself must have been worked out. */
        void list(Text text) {
            count = 0;
            for (int node = 0; node < text.count; node++) {
                listOfNode(node, text.signs[node]);
            }
            for (int i = 0; i < count; i++) {
                results.workOutChanged(CHANGE_ROWS + i, text, nodes[i], signs[i]);
                felt[i] = results.unlikeMany(CHANGE_ROWS + i, FIRST);
            }
        }

        private void listOfNode(int node, int sign) {
            if (Text.isNumber(sign)) {
                int number = sign - '0';
                append(node, '0' + (number + 1) % NUMBERS);
                append(node, '0' + (number + NUMBERS - 1) % NUMBERS);
                return;
            }
            String kind = kindOf(sign);
            for (int i = 0; i < kind.length(); i++) {
                if (kind.charAt(i) != sign) {
                    append(node, kind.charAt(i));
                }
            }
        }

        private static String kindOf(int sign) {
            if (ACTS.indexOf((char) sign) >= 0) {
                return ACTS;
            }
            return RELS.indexOf((char) sign) >= 0 ? RELS : LETTERS;
        }

        private void append(int node, int sign) {
            if (count < MOST_CHANGES) {
                nodes[count] = node;
                signs[count] = sign;
                count++;
            }
        }

        int silentOnes() {
            int many = 0;
            for (int i = 0; i < count; i++) {
                many += felt[i] == 0 ? 1 : 0;
            }
            return many;
        }
    }

    /** The TESTS: INPUTS and what is DUE. */
    private static final class Tests {
        final int[] inputs = new int[MOST_TESTS];
        final int[] dues = new int[MOST_TESTS];
        int count = 0;
        private final Results results;

        Tests(Results results) {
            this.results = results;
        }

        void append(int newInputs, int newDue) {
            if (count < MOST_TESTS) {
                inputs[count] = newInputs;
                dues[count] = newDue;
                count++;
            }
        }

        void remove(int number) {
            for (int i = number; i + 1 < count; i++) {
                inputs[i] = inputs[i + 1];
                dues[i] = dues[i + 1];
            }
            count--;
        }

        /** Whether the TEST would FAIL, if TEXT 0 had the RESULTS of the row. */
        boolean failsFor(int number, int row) {
            return results.at(row, inputs[number]) != dues[number];
        }

        int failing() {
            int many = 0;
            for (int i = 0; i < count; i++) {
                many += failsFor(i, FIRST) ? 1 : 0;
            }
            return many;
        }

        boolean noneFailsFor(int row) {
            for (int i = 0; i < count; i++) {
                if (failsFor(i, row)) {
                    return false;
                }
            }
            return true;
        }
    }

    /** Which TESTS notice which CHANGES. */
    private static final class Notices {
        /** Of a CHANGE: the TESTS that notice it. */
        final int[] bits = new int[MOST_CHANGES];
        int wishedInputs = NONE;
        int wishedMany = 0;
        private final long[] hiddenUnlike = new long[MOST_CHANGES];
        private final Changes changes;
        private final Tests tests;
        private final Results results;

        Notices(Changes changes, Tests tests, Results results) {
            this.changes = changes;
            this.tests = tests;
            this.results = results;
        }

        void settle() {
            for (int i = 0; i < changes.count; i++) {
                bits[i] = testsThatNotice(i);
            }
        }

        private int testsThatNotice(int change) {
            int set = 0;
            for (int t = 0; t < tests.count; t++) {
                if (results.isUnlikeAt(CHANGE_ROWS + change, FIRST, tests.inputs[t])) {
                    set |= 1 << t;
                }
            }
            return set;
        }

        int howManyNoticedBy(int test) {
            int many = 0;
            for (int i = 0; i < changes.count; i++) {
                many += (bits[i] >>> test) & 1;
            }
            return many;
        }

        int behindHowMany(int change) {
            int many = 0;
            for (int other = 0; other < changes.count; other++) {
                many += isBehind(change, other) ? 1 : 0;
            }
            return many;
        }

        private boolean isBehind(int change, int other) {
            int fewer = bits[other];
            return fewer != 0 && (fewer & ~bits[change]) == 0 && fewer != bits[change];
        }

        private boolean isHidden(int change) {
            return bits[change] == 0 && changes.felt[change] != 0;
        }

        int noticedOnes() {
            int many = 0;
            for (int i = 0; i < changes.count; i++) {
                many += bits[i] != 0 ? 1 : 0;
            }
            return many;
        }

        int hiddenOnes() {
            int many = 0;
            for (int i = 0; i < changes.count; i++) {
                many += isHidden(i) ? 1 : 0;
            }
            return many;
        }

        int frontOnes() {
            int many = 0;
            for (int i = 0; i < changes.count; i++) {
                many += bits[i] != 0 && behindHowMany(i) == 0 ? 1 : 0;
            }
            return many;
        }

        void findWished() {
            wishedInputs = NONE;
            wishedMany = 0;
            for (int word = 0; word < WORDS; word++) {
                findWishedIn(word, gatherHidden(word));
            }
        }

        private int gatherHidden(int word) {
            int gathered = 0;
            for (int i = 0; i < changes.count; i++) {
                if (isHidden(i)) {
                    hiddenUnlike[gathered] = results.unlike(CHANGE_ROWS + i, FIRST, word);
                    gathered++;
                }
            }
            return gathered;
        }

        private void findWishedIn(int word, int gathered) {
            for (int place = 0; place < WORD_BITS; place++) {
                int many = 0;
                for (int i = 0; i < gathered; i++) {
                    many += Results.bitAt(hiddenUnlike[i], place);
                }
                if (many > wishedMany) {
                    wishedMany = many;
                    wishedInputs = word * WORD_BITS + place;
                }
            }
        }
    }

    /** FEWEST and SOON, worked out together over all sets of TESTS and kept till something changes. */
    private static final class Fewer {
        /** Above every sum over MOST_CHANGES CHANGES of a place below MOST_TESTS. */
        private static final int TOO_MANY = 1_000_000;

        /**
         * By the set of TESTS that are still to come: how many NOTICED CHANGES wait for them, and
         * how many wait after each later turn, by the order that makes this sum least. A CHANGE
         * waits after as many turns as the place of its first TEST tells: the sum after the first
         * turn is SOON's. It is 0 just if none waits: the others then notice all, as for FEWEST.
         * As large as is needed so far, since most objects never need all sets of 14.
         */
        private int[] waits = new int[1];
        private final int[] order = new int[MOST_TESTS];
        private int sum = 0;
        private int set = 0;
        private boolean fresh = false;
        private final Changes changes;
        private final Tests tests;
        private final Notices notices;

        Fewer(Changes changes, Tests tests, Notices notices) {
            this.changes = changes;
            this.tests = tests;
            this.notices = notices;
        }

        void forget() {
            fresh = false;
        }

        int leastSet() {
            settle();
            return set;
        }

        int leastSum() {
            settle();
            return sum;
        }

        int testAtPlace(int place) {
            settle();
            return order[place];
        }

        private void settle() {
            if (fresh) {
                return;
            }
            int sets = 1 << tests.count;
            if (waits.length < sets) {
                waits = new int[sets];
            }
            countWaiting(sets);
            addLaterTurns(sets);
            findSet(sets);
            findOrder(sets);
            fresh = true;
        }

        /** A CHANGE waits, as long as all TESTS that notice it are still to come. */
        private void countWaiting(int sets) {
            for (int rest = 0; rest < sets; rest++) {
                waits[rest] = 0;
            }
            for (int i = 0; i < changes.count; i++) {
                int noticing = notices.bits[i];
                if (noticing != 0 && noticing < sets) {
                    waits[noticing]++;
                }
            }
            for (int t = 0; t < tests.count; t++) {
                int bit = 1 << t;
                for (int rest = bit; rest < sets; rest++) {
                    if ((rest & bit) != 0) {
                        waits[rest] += waits[rest ^ bit];
                    }
                }
            }
        }

        private void addLaterTurns(int sets) {
            for (int rest = 1; rest < sets; rest++) {
                waits[rest] += waits[rest ^ (1 << bestTurn(rest))];
            }
        }

        /** Of a set that is not empty: the TEST to take next, the first of several. */
        private int bestTurn(int rest) {
            int best = 0;
            int least = TOO_MANY;
            for (int t = 0; t < tests.count; t++) {
                int bit = 1 << t;
                if ((rest & bit) != 0 && waits[rest ^ bit] < least) {
                    best = t;
                    least = waits[rest ^ bit];
                }
            }
            return best;
        }

        /** The sets come as bits from the least one on, so the first of several stays. */
        private void findSet(int sets) {
            int all = sets - 1;
            set = all;
            for (int some = 0; some < sets; some++) {
                boolean noticesAll = waits[all ^ some] == 0;
                if (noticesAll && Integer.bitCount(some) < Integer.bitCount(set)) {
                    set = some;
                }
            }
        }

        private void findOrder(int sets) {
            int rest = sets - 1;
            sum = 0;
            for (int place = 0; place < tests.count; place++) {
                order[place] = bestTurn(rest);
                rest ^= 1 << order[place];
                if (place == 0) {
                    sum = waits[rest];
                }
            }
        }
    }

    /** BLAME of all NODES of TEXT 0, and their RANK. */
    private static final class Blames {
        final int[] uppers = new int[MOST_NODES];
        /** Never 0 for a NODE that has been weighed. */
        final int[] lowers = new int[MOST_NODES];
        private final int[] runBits = new int[MOST_TESTS];
        private final Tests tests;
        private final Worker worker;

        Blames(Tests tests, Worker worker) {
            this.tests = tests;
            this.worker = worker;
        }

        void weigh(Text text) {
            for (int t = 0; t < tests.count; t++) {
                runBits[t] = worker.nodesRun(text, tests.inputs[t]);
            }
            int failing = tests.failing();
            for (int node = 0; node < text.count; node++) {
                weighNode(node, failing, tests.count - failing);
            }
        }

        private void weighNode(int node, int failing, int others) {
            int failingRuns = countRuns(node, true);
            int otherRuns = countRuns(node, false);
            if (failing == 0) {
                put(node, 0, 1);
            } else if (others == 0) {
                put(node, failingRuns, failing);
            } else {
                int upper = failingRuns * others;
                put(node, upper, upper + otherRuns * failing);
            }
        }

        private int countRuns(int node, boolean ofFailing) {
            int many = 0;
            for (int t = 0; t < tests.count; t++) {
                if (tests.failsFor(t, FIRST) == ofFailing) {
                    many += (runBits[t] >>> node) & 1;
                }
            }
            return many;
        }

        private void put(int node, int upper, int lower) {
            uppers[node] = upper;
            lowers[node] = lower == 0 ? 1 : lower;
        }

        int nodeAtPlace(int place, int nodes) {
            for (int node = 0; node < nodes; node++) {
                if (howManyAhead(node, nodes) == place) {
                    return node;
                }
            }
            return NONE;
        }

        private int howManyAhead(int node, int nodes) {
            int many = 0;
            for (int other = 0; other < nodes; other++) {
                int more = uppers[other] * lowers[node] - uppers[node] * lowers[other];
                many += more > 0 || (more == 0 && other < node) ? 1 : 0;
            }
            return many;
        }
    }

    /** The CHANGES by which no TEST FAILS. */
    private static final class Mends {
        final int[] found = new int[MOST_CHANGES];
        int count = 0;
        private final Changes changes;
        private final Tests tests;
        private final Results results;

        Mends(Changes changes, Tests tests, Results results) {
            this.changes = changes;
            this.tests = tests;
            this.results = results;
        }

        void find() {
            count = 0;
            for (int i = 0; i < changes.count; i++) {
                if (tests.noneFailsFor(CHANGE_ROWS + i)) {
                    found[count] = i;
                    count++;
                }
            }
        }

        int kinds() {
            int many = 0;
            for (int i = 0; i < count; i++) {
                many += isUnlikeEarlierOnes(i) ? 1 : 0;
            }
            return many;
        }

        private boolean isUnlikeEarlierOnes(int mend) {
            for (int i = 0; i < mend; i++) {
                if (results.unlikeMany(CHANGE_ROWS + found[i], CHANGE_ROWS + found[mend]) == 0) {
                    return false;
                }
            }
            return true;
        }
    }

    /** Where TEXTS 0 and 1 part. */
    private static final class Parting {
        private static final int DIGITS = 3;
        private static final int DIGIT_BITS = 3;
        private static final int WAYS = 3;

        int lowest = 0;
        int steps = 0;
        private final Results results;

        Parting(Results results) {
            this.results = results;
        }

        boolean isAt(int inputs) {
            return results.isUnlikeAt(FIRST, SECOND, inputs);
        }

        int leastInputs() {
            int least = NONE;
            for (int inputs = 0; inputs < ALL_INPUTS; inputs++) {
                if (isAt(inputs) && (least == NONE || together(inputs) < together(least))) {
                    least = inputs;
                }
            }
            return least;
        }

        private static int together(int inputs) {
            return digitOf(inputs, 0) + digitOf(inputs, 1) + digitOf(inputs, 2);
        }

        /** Of INPUTS: c is digit 0, b is 1, a is 2. */
        private static int digitOf(int inputs, int digit) {
            return (inputs >> (DIGIT_BITS * digit)) % NUMBERS;
        }

        void goDown(int inputs) {
            lowest = inputs;
            steps = 0;
            // Each step makes INPUTS less, so there are fewer steps than INPUTS.
            for (int turn = 0; turn < ALL_INPUTS; turn++) {
                int next = nextDown(lowest);
                if (next == lowest) {
                    return;
                }
                lowest = next;
                steps++;
            }
        }

        /** The INPUTS after the first step by which they still part; the same ones, if none does. */
        private int nextDown(int inputs) {
            for (int way = 0; way < WAYS; way++) {
                for (int digit = 0; digit < DIGITS; digit++) {
                    int next = stepped(inputs, way, digit);
                    if (next != inputs && isAt(next)) {
                        return next;
                    }
                }
            }
            return inputs;
        }

        private static int stepped(int inputs, int way, int digit) {
            int number = digitOf(inputs, digit);
            int lessened = way == 0 ? 0 : way == 1 ? number / 2 : Math.max(number - 1, 0);
            return inputs - ((number - lessened) << (DIGIT_BITS * digit));
        }
    }
}

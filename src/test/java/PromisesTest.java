/** Each promise of the document by hand: ordinary inputs, the edges it names, wrong inputs. */
public final class PromisesTest extends Answers {
    public static void main(String[] args) {
        newObject();
        say();
        wipe();
        fault();
        read();
        readLimits();
        readShorter();
        node();
        result();
        runs();
        change();
        changeNoticed();
        by();
        test();
        drop();
        of();
        many();
        score();
        fewest();
        soon();
        wished();
        blame();
        rank();
        mend();
        parts();
        less();
        told();
        refusedChangesNothing();
        end();
    }

    // ---- 1 texts

    private static void newObject() {
        about("promise 1");
        NoticeTests x = new NoticeTests();
        int[] told = {0, 1, 1, 0, 0};
        for (int what = 0; what < told.length; what++) {
            due("told(" + what + ")", x.told(what), told[what]);
        }
        for (int text = 0; text < 2; text++) {
            due("sign", x.node(text, 0, 0), '0');
            due("owner", x.node(text, 0, 1), NONE);
            due("span", x.node(text, 0, 2), 1);
            due("result", x.result(text, 511), 0);
            due("runs", x.runs(text, 0), 1);
        }
        due("fault()", x.fault(), 0);
        due("wipe()", x.wipe(), 0);
        due("change(-1, 0)", x.change(-1, 0), 2);
        due("change(0, 1)", x.change(0, 1), '1');
        due("change(1, 1)", x.change(1, 1), '7');
        due("many(2)", x.many(2), 2);
        due("fewest(0)", x.fewest(0), 0);
        due("soon(-1)", x.soon(-1), 0);
        due("soon(0)", x.soon(0), NONE);
        due("rank(0)", x.rank(0), 0);
        due("mend(-1)", x.mend(-1), STATE);
        due("parts(0)", x.parts(0), 0);
        NoticeTests other = new NoticeTests();
        other.say('a');
        other.read(0);
        other.test(64, 0);
        due("another object is another one", x.told(3), 0);
        due("another object is another one", x.node(0, 0, 0), '0');
    }

    private static void say() {
        about("promise 2");
        NoticeTests x = new NoticeTests();
        due("say(33)", x.say(33), 1);
        due("say(126)", x.say(126), 2);
        due("say(32)", x.say(32), OUTSIDE);
        due("say(127)", x.say(127), OUTSIDE);
        due("say(0)", x.say(0), OUTSIDE);
        // A code whose last 16 bits are those of a sign.
        due("say(65536 + 'a')", x.say(65536 + 'a'), OUTSIDE);
        for (int far : FAR) {
            due("say(" + far + ")", x.say(far), OUTSIDE);
        }
        for (int i = 3; i <= 40; i++) {
            due("say('a')", x.say('a'), i);
        }
        due("the 41st", x.say('a'), FULL);
        due("OUTSIDE is ahead of FULL", x.say(127), OUTSIDE);
        due("told(0)", x.told(0), 40);
        due("fault()", x.fault(), 0);
    }

    private static void wipe() {
        about("promise 3");
        NoticeTests x = new NoticeTests();
        due("wipe()", x.wipe(), 0);
        lay(x, "+ab");
        due("wipe()", x.wipe(), 3);
        due("wipe() again", x.wipe(), 0);
        due("fault()", x.fault(), 0);
        lay(x, "ab");
        x.wipe();
        x.say('b');
        due("the first sign after it", x.fault(), NONE);
        x.read(0);
        due("wipe() after read", x.wipe(), 0);
        due("TEXT 0 stays", x.node(0, 0, 0), 'b');
        for (int i = 0; i < 40; i++) {
            x.say('~');
        }
        due("wipe() of a full PAD", x.wipe(), 40);
        due("there is room again", x.say('a'), 1);
    }

    private static void fault() {
        about("promise 4");
        faultOf("", 0);
        for (String whole : new String[] {"a", "b", "c", "0", "7", "+ab", "-a1", "*00", "mab", "Mcc", "<ab12", ">ab12", "=ab12"}) {
            faultOf(whole, NONE);
            faultOf(whole + "a", whole.length());
            faultOf(whole + "~", whole.length());
            faultOf(whole.substring(0, whole.length() - 1), whole.length() - 1);
        }
        for (String none : new String[] {"8", "9", "d", "A", "!", "~", "n", "/"}) {
            faultOf(none, 0);
            faultOf("+" + none, 1);
            faultOf("+a" + none, 2);
            faultOf("<ab+1" + none + "a", 5);
        }
        faultOf("<<ab12+ab", 9);
        faultOf("<<ab12+ab>ab*120c", NONE);
        faultOf("+++", 3);
        faultOf("+a+b+c", 6);
        String deep = "+a+a+a+a+a+a+a+a+a";
        faultOf(deep + "b", NONE);
        faultOf(deep + "+ab", 18);
        faultOf(deep + "<ab12", 18);
        faultOf(deep + "+", 18);
        faultOf(deep, 18);
        faultOf("+++++++++", 9);
        faultOf("++++++++++", 9);
        faultOf("+++++++++=", 9);
        faultOf("++++++++=ab12ccccccccc", 21);
        faultOf("++++++++=ab12cccccccc", NONE);
        // After a deep TEXT has ended, an ACT may stand again further out.
        faultOf("+" + deep.substring(2) + "b+ab", NONE);
        faultOf("++++++++++++++++++++++++++++++++++++++++", 9);
        faultOf("<<<<<<<<<", 9);
    }

    private static void faultOf(String signs, int want) {
        NoticeTests x = new NoticeTests();
        lay(x, signs);
        due("fault() of " + signs, x.fault(), want);
        due("fault() again", x.fault(), want);
        due("signs stay", x.told(0), signs.length());
    }

    private static void read() {
        about("promise 5");
        NoticeTests x = new NoticeTests();
        due("nothing to read", x.read(0), NO);
        lay(x, "+a");
        due("more must come", x.read(1), NO);
        due("no such TEXT is ahead of NO", x.read(2), UNKNOWN);
        for (int far : FAR) {
            due("read(" + far + ")", x.read(far), UNKNOWN);
        }
        due("read(-1)", x.read(-1), UNKNOWN);
        due("the PAD stays", x.told(0), 2);
        x.say('b');
        x.test(64, 1);
        due("read(0)", x.read(0), 3);
        due("the PAD is empty", x.told(0), 0);
        due("TESTS stay", x.told(3), 1);
        due("TESTS stay", x.of(0, 0), 64);
        due("TEXT 1 stays", x.told(2), 1);
        due("it is worked out anew", x.result(0, inputs(2, 3, 0)), 5);
        due("it is noticed anew", x.of(0, 3), 5);
        lay(x, "c");
        due("read(1)", x.read(1), 1);
        due("TEXT 0 stays", x.told(1), 3);
        due("result(1, 5)", x.result(1, 5), 5);
        lay(x, "b");
        due("a shorter one", x.read(0), 1);
        due("its CHANGES", x.change(-1, 0), 2);
        due("its NODES", x.node(0, 1, 0), UNKNOWN);
        due("the test is noticed anew", x.of(0, 3), 1);
    }

    private static void readLimits() {
        NoticeTests x = of("+a+a+a+a+a+a+a+a+ab", "+b0");
        String eleven = "+" + "+++ab+ab++ab+ab" + "++ab+ac";
        lay(x, eleven);
        due("no FAULT", x.fault(), NONE);
        due("23 NODES", x.read(0), 23);
        due("all CHANGES of 11 ACTS and 12 INPUTS", x.change(-1, 0), 68);
        due("the last one", x.change(67, 0), 22);
        due("no further one", x.change(68, 0), UNKNOWN);
        due("runs(0, 0)", x.runs(0, 0), (1 << 23) - 1);
        String more = "+" + eleven + "a";
        lay(x, more);
        due("no FAULT", x.fault(), NONE);
        due("25 NODES", x.read(0), FULL);
        due("25 NODES", x.read(1), FULL);
        due("UNKNOWN is ahead of FULL", x.read(2), UNKNOWN);
        due("the PAD stays", x.told(0), 25);
        due("the TEXT stays", x.told(1), 23);
        x.say('a');
        due("NO is ahead of FULL", x.read(0), NO);
    }

    /** Nothing of a longer TEXT is left, when a shorter one has been read. */
    private static void readShorter() {
        NoticeTests x = of("m11", "0");
        lay(x, "0");
        due("read(0)", x.read(0), 1);
        manyAre(x, 0, 0, 2, 0);
        wishedIs(x, 0, 2);
        x.test(0, 1);
        manyAre(x, 0, 2, 0, 2);
        due("of(0, 3)", x.of(0, 3), 2);
        due("change(0, 5)", x.change(0, 5), 0);
        mendsAre(x, 1, 0);
        ranksAre(x, 0);
        NoticeTests noticed = of("+ab", "0");
        noticed.test(inputs(1, 0, 0), 1);
        lay(noticed, "c");
        noticed.read(0);
        manyAre(noticed, 0, 1, 1, 1);
        soonIs(noticed, 0, 0);
        fewestIs(noticed, 1, 1);
    }

    private static void node() {
        about("promise 6");
        NoticeTests x = of("<*ab3=c12+a4-b5", "M1a");
        String signs = "<*ab3=c12+a4-b5";
        int[] owners = {NONE, 0, 1, 1, 0, 0, 5, 5, 5, 5, 9, 9, 0, 12, 12};
        int[] spans = {15, 3, 1, 1, 1, 7, 1, 1, 1, 3, 1, 1, 3, 1, 1};
        for (int i = 0; i < signs.length(); i++) {
            due("node(0, " + i + ", 0)", x.node(0, i, 0), signs.charAt(i));
            due("node(0, " + i + ", 1)", x.node(0, i, 1), owners[i]);
            due("node(0, " + i + ", 2)", x.node(0, i, 2), spans[i]);
        }
        due("node(1, 2, 0)", x.node(1, 2, 0), 'a');
        due("node(1, 2, 1)", x.node(1, 2, 1), 0);
        due("node(1, 0, 2)", x.node(1, 0, 2), 3);
        due("node(1, 3, 0)", x.node(1, 3, 0), UNKNOWN);
        due("node(0, 15, 0)", x.node(0, 15, 0), UNKNOWN);
        due("node(0, -1, 0)", x.node(0, -1, 0), UNKNOWN);
        due("node(2, 0, 0)", x.node(2, 0, 0), UNKNOWN);
        due("node(-1, 0, 0)", x.node(-1, 0, 0), UNKNOWN);
        due("node(0, 0, 3)", x.node(0, 0, 3), OUTSIDE);
        due("node(0, 0, -1)", x.node(0, 0, -1), OUTSIDE);
        due("UNKNOWN is ahead of OUTSIDE", x.node(0, 15, 3), UNKNOWN);
        for (int far : FAR) {
            due("node(far, 0, 0)", x.node(far, 0, 0), UNKNOWN);
            due("node(0, far, 0)", x.node(0, far, 0), UNKNOWN);
            due("node(0, 0, far)", x.node(0, 0, far), OUTSIDE);
        }
    }

    private static void result() {
        about("promise 7");
        for (int a = 0; a < 8; a++) {
            resultsOfLeaves(a);
        }
        NoticeTests sums = of("+ab", "-ab");
        NoticeTests others = of("*ab", "mab");
        NoticeTests greater = of("Mab", "<ab12");
        NoticeTests rels = of(">ab12", "=ab12");
        for (int a = 0; a < 8; a++) {
            for (int b = 0; b < 8; b++) {
                int at = inputs(a, b, 3);
                due("+ab", sums.result(0, at), (a + b) % 8);
                due("-ab", sums.result(1, at), (a - b + 8) % 8);
                due("*ab", others.result(0, at), a * b % 8);
                due("mab", others.result(1, at), Math.min(a, b));
                due("Mab", greater.result(0, at), Math.max(a, b));
                due("<ab12", greater.result(1, at), a < b ? 1 : 2);
                due(">ab12", rels.result(0, at), a > b ? 1 : 2);
                due("=ab12", rels.result(1, at), a == b ? 1 : 2);
            }
        }
        due("result(2, 0)", sums.result(2, 0), UNKNOWN);
        due("result(-1, 0)", sums.result(-1, 0), UNKNOWN);
        due("result(0, 512)", sums.result(0, 512), OUTSIDE);
        due("result(1, -1)", sums.result(1, -1), OUTSIDE);
        due("UNKNOWN is ahead of OUTSIDE", sums.result(2, 512), UNKNOWN);
        for (int far : FAR) {
            due("result(far, 0)", sums.result(far, 0), UNKNOWN);
            due("result(0, far)", sums.result(0, far), OUTSIDE);
        }
        NoticeTests deep = of("+a+a+a+a+a+a+a+a+a1", "<ab<bc123");
        due("nine times a and 1", deep.result(0, inputs(3, 0, 0)), 28 % 8);
        due("within", deep.result(1, inputs(0, 1, 2)), 1);
        due("within", deep.result(1, inputs(0, 2, 1)), 2);
        due("within", deep.result(1, inputs(2, 1, 1)), 3);
    }

    /** Objects anew for each a, since one is not used for more than 512 calls. */
    private static void resultsOfLeaves(int a) {
        NoticeTests x = of("a", "b");
        NoticeTests third = of("c", "5");
        for (int i = 64 * a; i < 64 * a + 64; i++) {
            due("a", x.result(0, i), i / 64);
            due("b", x.result(1, i), i / 8 % 8);
            due("c", third.result(0, i), i % 8);
            due("5", third.result(1, i), 5);
        }
    }

    private static void runs() {
        about("promise 8");
        NoticeTests x = of("<ab<bc123", "+=ab10M>bc23<ac45");
        due("third, third", x.runs(0, inputs(0, 1, 2)), 0b001111111);
        due("third, fourth", x.runs(0, inputs(0, 2, 1)), 0b010111111);
        due("fourth", x.runs(0, inputs(2, 1, 1)), 0b100000111);
        // NODES: 0 +, 1 to 5 =ab10, 6 M, 7 to 11 >bc23, 12 to 16 <ac45.
        due("both of an ACT", x.runs(1, inputs(1, 1, 0)), 0b1_0_111_0_1_111_1_0_1_111_1);
        due("both of an ACT", x.runs(1, inputs(0, 1, 1)), 0b0_1_111_1_0_111_1_1_0_111_1);
        NoticeTests within = of("<<ab12<bc3456", "=ab=bc123");
        // NODES: 0 <, 1 to 5 <ab12, 6 to 10 <bc34, 11 and 12 the third and fourth.
        due("a REL in the condition", within.runs(0, inputs(0, 1, 2)), 0b01_01111_01111_1);
        due("a REL in the condition", within.runs(0, inputs(1, 1, 1)), 0b01_10111_10111_1);
        due("runs(2, 0)", x.runs(2, 0), UNKNOWN);
        due("runs(-1, 600)", x.runs(-1, 600), UNKNOWN);
        due("runs(0, 512)", x.runs(0, 512), OUTSIDE);
        due("runs(0, -1)", x.runs(0, -1), OUTSIDE);
        for (int far : FAR) {
            due("runs(far, 0)", x.runs(far, 0), UNKNOWN);
            due("runs(0, far)", x.runs(0, far), OUTSIDE);
        }
    }

    // ---- 2 changes, tests

    private static void change() {
        about("promise 9");
        NoticeTests x = of("<a3-bc2", "0");
        int[] nodes = {0, 0, 1, 1, 2, 2, 3, 3, 3, 3, 4, 4, 5, 5, 6, 6};
        String signs = ">=bc42+*mMacab31";
        due("change(-1, 0)", x.change(-1, 0), 16);
        for (int i = 0; i < 16; i++) {
            due("change(" + i + ", 0)", x.change(i, 0), nodes[i]);
            due("change(" + i + ", 1)", x.change(i, 1), signs.charAt(i));
            due("no TESTS: not NOTICED", x.change(i, 3), 0);
            due("no TESTS: none", x.change(i, 4), 0);
            due("no TESTS: BEHIND none", x.change(i, 5), 0);
        }
        due("a < 4", x.change(4, 2), 56);
        due("a < 2", x.change(5, 2), 56);
        due("b + c", x.change(6, 2), 3 * 48);
        due("3 instead of 2", x.change(14, 2), 320);
        orderOfNewSigns();
        due("change(16, 0)", x.change(16, 0), UNKNOWN);
        due("change(-2, 0)", x.change(-2, 0), UNKNOWN);
        due("change(0, 6)", x.change(0, 6), OUTSIDE);
        due("change(15, -1)", x.change(15, -1), OUTSIDE);
        due("UNKNOWN is ahead of OUTSIDE", x.change(16, 6), UNKNOWN);
        for (int far : FAR) {
            due("change(far, 0)", x.change(far, 0), UNKNOWN);
            due("change(0, far)", x.change(0, far), OUTSIDE);
        }
    }

    private static void orderOfNewSigns() {
        String[] signs = {"+-*mM", "-+*mM", "*+-mM", "m+-*M", "M+-*m", "<>=", "><=", "=<>", "abc", "bac", "cab",
            "017", "120", "231", "342", "453", "564", "675", "706"};
        for (String one : signs) {
            char sign = one.charAt(0);
            String parts = "+-*mM".indexOf(sign) >= 0 ? "ab" : "<>=".indexOf(sign) >= 0 ? "ab12" : "";
            NoticeTests x = of(sign + parts, "0");
            for (int i = 1; i < one.length(); i++) {
                due("new sign " + (i - 1) + " of " + sign, x.change(i - 1, 1), one.charAt(i));
                due("its NODE", x.change(i - 1, 0), 0);
            }
            due("how many", x.change(-1, 0), one.length() - 1 + 2 * parts.length());
        }
    }

    private static void changeNoticed() {
        about("promise 9");
        NoticeTests x = sumWithTests();
        int[] bits = {12, 14, 14, 8, 6, 2, 6, 4};
        int[] behind = {2, 6, 6, 0, 2, 0, 2, 0};
        for (int i = 0; i < 8; i++) {
            due("change(" + i + ", 3)", x.change(i, 3), 1);
            due("change(" + i + ", 4)", x.change(i, 4), bits[i]);
            due("change(" + i + ", 5)", x.change(i, 5), behind[i]);
        }
        x.drop(1);
        // TESTS 0 to 2 are the former 0, 2, 3 now.
        int[] later = {6, 6, 6, 4, 2, 0, 2, 2};
        int[] behindLater = {4, 4, 4, 0, 0, 0, 0, 0};
        for (int i = 0; i < 8; i++) {
            due("change(" + i + ", 3)", x.change(i, 3), i == 5 ? 0 : 1);
            due("change(" + i + ", 4)", x.change(i, 4), later[i]);
            due("change(" + i + ", 5)", x.change(i, 5), behindLater[i]);
        }
    }

    private static void by() {
        about("promise 10");
        NoticeTests x = of("<a3-bc2", "0");
        due("a > 3", x.by(0, inputs(1, 5, 1)), 2);
        due("a > 3", x.by(0, inputs(4, 5, 1)), 4);
        due("a = 3", x.by(1, inputs(3, 1, 5)), 4);
        due("a < 4", x.by(4, inputs(3, 5, 1)), 4);
        due("a < 2", x.by(5, inputs(2, 5, 1)), 2);
        due("b + c", x.by(6, inputs(0, 5, 4)), 1);
        due("b * c", x.by(7, inputs(0, 5, 4)), 4);
        due("1 instead of 2", x.by(15, inputs(7, 0, 0)), 1);
        due("TEXT 0 itself stays", x.result(0, inputs(7, 0, 0)), 2);
        due("by(16, 0)", x.by(16, 0), UNKNOWN);
        due("by(-1, 0)", x.by(-1, 0), UNKNOWN);
        due("by(0, 512)", x.by(0, 512), OUTSIDE);
        due("by(0, -1)", x.by(0, -1), OUTSIDE);
        due("UNKNOWN is ahead of OUTSIDE", x.by(16, 512), UNKNOWN);
        for (int far : FAR) {
            due("by(far, 0)", x.by(far, 0), UNKNOWN);
            due("by(0, far)", x.by(0, far), OUTSIDE);
        }
    }

    private static void test() {
        about("promise 11");
        NoticeTests x = new NoticeTests();
        for (int i = 0; i < 14; i++) {
            due("test(511, 7)", x.test(511 - i, i % 8), i);
        }
        due("the 15th", x.test(0, 0), FULL);
        due("OUTSIDE is ahead of FULL", x.test(512, 0), OUTSIDE);
        due("OUTSIDE is ahead of FULL", x.test(0, 8), OUTSIDE);
        due("told(3)", x.told(3), 14);
        due("of(13, 0)", x.of(13, 0), 498);
        x.drop(0);
        due("there is room again", x.test(5, 5), 13);
        NoticeTests y = new NoticeTests();
        due("test(-1, 0)", y.test(-1, 0), OUTSIDE);
        due("test(0, -1)", y.test(0, -1), OUTSIDE);
        for (int far : FAR) {
            due("test(far, 0)", y.test(far, 0), OUTSIDE);
            due("test(0, far)", y.test(0, far), OUTSIDE);
        }
        due("test(3, 1)", y.test(3, 1), 0);
        due("the same once more", y.test(3, 1), 1);
    }

    private static void drop() {
        about("promise 12");
        NoticeTests x = new NoticeTests();
        due("drop(0)", x.drop(0), UNKNOWN);
        for (int i = 0; i < 14; i++) {
            x.test(10 * i, i % 8);
        }
        due("drop(13)", x.drop(13), 130);
        due("drop(13) again", x.drop(13), UNKNOWN);
        due("drop(0)", x.drop(0), 0);
        due("drop(4)", x.drop(4), 50);
        int[] left = {1, 2, 3, 4, 6, 7, 8, 9, 10, 11, 12};
        due("told(3)", x.told(3), left.length);
        for (int i = 0; i < left.length; i++) {
            due("of(" + i + ", 0)", x.of(i, 0), 10 * left[i]);
            due("of(" + i + ", 1)", x.of(i, 1), left[i] % 8);
        }
        due("drop(11)", x.drop(11), UNKNOWN);
        due("drop(-1)", x.drop(-1), UNKNOWN);
        for (int far : FAR) {
            due("drop(far)", x.drop(far), UNKNOWN);
        }
        due("told(3)", x.told(3), left.length);
    }

    private static void of() {
        about("promise 13");
        NoticeTests x = sumWithTests();
        int[] noticed = {0, 5, 6, 4};
        for (int i = 0; i < 4; i++) {
            due("of(" + i + ", 2)", x.of(i, 2), 0);
            due("of(" + i + ", 3)", x.of(i, 3), noticed[i]);
        }
        due("of(3, 0)", x.of(3, 0), 73);
        due("of(3, 1)", x.of(3, 1), 2);
        x.test(73, 3);
        due("it FAILS", x.of(4, 2), 1);
        due("whatever is DUE", x.of(4, 3), 4);
        due("of(5, 0)", x.of(5, 0), UNKNOWN);
        due("of(-1, 0)", x.of(-1, 0), UNKNOWN);
        due("of(0, 4)", x.of(0, 4), OUTSIDE);
        due("of(0, -1)", x.of(0, -1), OUTSIDE);
        due("UNKNOWN is ahead of OUTSIDE", x.of(5, 4), UNKNOWN);
        for (int far : FAR) {
            due("of(far, 0)", x.of(far, 0), UNKNOWN);
            due("of(0, far)", x.of(0, far), OUTSIDE);
        }
    }

    private static void many() {
        about("promise 14");
        NoticeTests x = sumWithTests();
        manyAre(x, 0, 8, 0, 3);
        x.drop(1);
        manyAre(x, 0, 7, 1, 4);
        NoticeTests same = of("maa", "0");
        manyAre(same, 1, 0, 7, 0);
        same.test(64, 0);
        manyAre(same, 1, 6, 1, 6);
        NoticeTests nothing = of("**00*00", "0");
        manyAre(nothing, 20, 0, 0, 0);
        nothing.test(64, 0);
        manyAre(nothing, 20, 0, 0, 0);
        due("many(4)", x.many(4), OUTSIDE);
        due("many(-1)", x.many(-1), OUTSIDE);
        for (int far : FAR) {
            due("many(far)", x.many(far), OUTSIDE);
        }
    }

    private static void score() {
        about("promise 15");
        NoticeTests x = sumWithTests();
        scoreIs(x, 1, 1);
        x.drop(1);
        scoreIs(x, 7, 8);
        x.drop(1);
        scoreIs(x, 1, 2);
        x.drop(1);
        scoreIs(x, 0, 1);
        NoticeTests same = of("maa", "0");
        same.test(64, 0);
        scoreIs(same, 6, 7);
        scoreIs(of("**00*00", "0"), 0, 1);
        due("score(2)", x.score(2), OUTSIDE);
        due("score(-1)", x.score(-1), OUTSIDE);
        for (int far : FAR) {
            due("score(far)", x.score(far), OUTSIDE);
        }
    }

    // ---- 3 fewer tests

    private static void fewest() {
        about("promise 16");
        NoticeTests x = sumWithTests();
        fewestIs(x, 14, 3);
        // (3, 1, 2) gives 4: all but M and *, which are 3; none of the others alone notices these two.
        x.test(inputs(3, 1, 2), 0);
        due("of(4, 3)", x.of(4, 3), 8);
        fewestIs(x, 16, 1);
        x.test(inputs(3, 1, 2), 0);
        fewestIs(x, 16, 1);
        x.drop(4);
        fewestIs(x, 16, 1);
        x.drop(4);
        fewestIs(x, 14, 3);
        NoticeTests same = of("+ab", "0");
        fewestIs(same, 0, 0);
        same.test(0, 0);
        fewestIs(same, 0, 0);
        same.test(8, 0);
        same.test(8, 1);
        same.test(16, 1);
        fewestIs(same, 2, 1);
        lay(same, "7");
        same.read(0);
        fewestIs(same, 1, 1);
        due("fewest(2)", x.fewest(2), OUTSIDE);
        due("fewest(-1)", x.fewest(-1), OUTSIDE);
        for (int far : FAR) {
            due("fewest(far)", x.fewest(far), OUTSIDE);
        }
    }

    private static void soon() {
        about("promise 17");
        soonIs(new NoticeTests(), 0);
        NoticeTests x = sumWithTests();
        // After TEST 2 two wait, M and cb; after 2 and one of 1, 3 one of them.
        soonIs(x, 3, 2, 1, 3, 0);
        x.drop(3);
        soonIs(x, 1, 2, 1, 0);
        x.drop(2);
        soonIs(x, 0, 1, 0);
        x.drop(1);
        soonIs(x, 0, 0);
        NoticeTests alike = of("a", "0");
        for (int i = 0; i < 14; i++) {
            alike.test(64, 1);
        }
        soonIs(alike, 0, 0, 1, 2, 3, 4, 5, 6, 7, 8, 9, 10, 11, 12, 13);
        oneOfManyGoesFirst();
        due("soon(-2)", x.soon(-2), NONE);
        for (int far : FAR) {
            due("soon(far)", x.soon(far), NONE);
        }
    }

    /** The last of 14 TESTS alone notices anything: it goes first, all others by numbers. */
    private static void oneOfManyGoesFirst() {
        NoticeTests x = of("a", "0");
        for (int i = 0; i < 13; i++) {
            x.test(0, 0);
        }
        x.test(inputs(1, 0, 0), 1);
        soonIs(x, 0, 13, 0, 1, 2, 3, 4, 5, 6, 7, 8, 9, 10, 11, 12);
        x.drop(0);
        x.drop(0);
        x.test(inputs(1, 0, 1), 1);
        // TEST 11 notices a to b, a to c; TEST 12 only a to b.
        soonIs(x, 0, 11, 0, 1, 2, 3, 4, 5, 6, 7, 8, 9, 10, 12);
        x.drop(11);
        x.test(inputs(1, 1, 0), 1);
        // Now TEST 11 notices a to b alone, TEST 12 a to c alone.
        soonIs(x, 1, 11, 12, 0, 1, 2, 3, 4, 5, 6, 7, 8, 9, 10);
    }

    private static void wished() {
        about("promise 18");
        wishedIs(new NoticeTests(), 0, 2);
        NoticeTests same = of("maa", "0");
        wishedIs(same, inputs(2, 0, 0), 7);
        same.test(64, 0);
        wishedIs(same, inputs(2, 0, 0), 1);
        same.test(inputs(3, 0, 0), 0);
        wishedIs(same, NONE, 0);
        wishedIs(of("**00*00", "0"), NONE, 0);
        NoticeTests last = of("=a7=b7=c71000", "0");
        last.test(0, 0);
        due("7 7 7 alone", last.result(0, 511), 1);
        int most = last.wished(1);
        due("as many as they notice", last.test(last.wished(0), 0), 1);
        due("as many as they notice", last.of(1, 3), most);
        NoticeTests x = sumWithTests();
        wishedIs(x, NONE, 0);
        x.drop(1);
        // Hidden is c + b alone: the first INPUTS with a and c unlike.
        wishedIs(x, 1, 1);
        due("wished(2)", x.wished(2), OUTSIDE);
        due("wished(-1)", x.wished(-1), OUTSIDE);
        for (int far : FAR) {
            due("wished(far)", x.wished(far), OUTSIDE);
        }
    }

    // ---- 4 blame, mends

    private static void blame() {
        about("promise 19");
        NoticeTests x = of("<a3bc", "0");
        blamesAre(x, 0, 1, 0, 1, 0, 1, 0, 1, 0, 1);
        x.test(inputs(0, 1, 2), 1);
        blamesAre(x, 0, 1, 0, 1, 0, 1, 0, 1, 0, 1);
        x.test(inputs(5, 1, 2), 3);
        blamesAre(x, 1, 2, 1, 2, 1, 2, 0, 1, 1, 1);
        x.test(inputs(5, 2, 2), 2);
        // F is 1, P is 2: NODE 4 by 1 failing and 1 other one: 2 by (2 and 1).
        blamesAre(x, 1, 2, 1, 2, 1, 2, 0, 1, 2, 3);
        x.drop(0);
        // NODE 3 is run by none.
        blamesAre(x, 1, 2, 1, 2, 1, 2, 0, 1, 1, 2);
        x.drop(1);
        blamesAre(x, 1, 1, 1, 1, 1, 1, 0, 1, 1, 1);
        x.test(inputs(0, 1, 2), 7);
        blamesAre(x, 1, 1, 1, 1, 1, 1, 1, 2, 1, 2);
        x.test(inputs(0, 2, 2), 7);
        x.test(inputs(0, 3, 2), 7);
        blamesAre(x, 1, 1, 1, 1, 1, 1, 3, 4, 1, 4);
        due("blame(5, 0)", x.blame(5, 0), UNKNOWN);
        due("blame(-1, 0)", x.blame(-1, 0), UNKNOWN);
        due("blame(0, 2)", x.blame(0, 2), OUTSIDE);
        due("blame(0, -1)", x.blame(0, -1), OUTSIDE);
        due("UNKNOWN is ahead of OUTSIDE", x.blame(5, 2), UNKNOWN);
        for (int far : FAR) {
            due("blame(far, 0)", x.blame(far, 0), UNKNOWN);
            due("blame(0, far)", x.blame(0, far), OUTSIDE);
        }
    }

    private static void rank() {
        about("promise 20");
        NoticeTests x = of("<a3bc", "0");
        ranksAre(x, 0, 1, 2, 3, 4);
        x.test(inputs(0, 1, 2), 1);
        ranksAre(x, 0, 1, 2, 3, 4);
        x.test(inputs(5, 1, 2), 3);
        ranksAre(x, 4, 0, 1, 2, 3);
        x.drop(0);
        ranksAre(x, 0, 1, 2, 4, 3);
        x.test(inputs(0, 1, 2), 7);
        ranksAre(x, 0, 1, 2, 3, 4);
        x.test(inputs(0, 2, 2), 2);
        // NODE 3: 1 by (1 and 2); NODE 4: 1 by 1; others 2 by (2 and 2).
        ranksAre(x, 4, 0, 1, 2, 3);
        lay(x, "a");
        x.read(0);
        ranksAre(x, 0);
        due("rank(-1)", x.rank(-1), NONE);
        for (int far : FAR) {
            due("rank(far)", x.rank(far), NONE);
        }
    }

    private static void mend() {
        about("promise 21");
        NoticeTests x = of("<a3bc", "0");
        int[] asked = {-3, -2, -1, 0, 1, 1000, Integer.MIN_VALUE, Integer.MAX_VALUE};
        for (int i : asked) {
            due("no TESTS", x.mend(i), STATE);
        }
        x.test(inputs(5, 1, 2), 2);
        for (int i : asked) {
            due("none that FAILS", x.mend(i), STATE);
        }
        x.drop(0);
        x.test(inputs(5, 1, 2), 1);
        mendsAre(x, 4, 0, 2, 3, 9);
        // Only 3 is less than 3 no more: a to c, c to b stay.
        x.test(inputs(2, 3, 0), 3);
        mendsAre(x, 2, 3, 9);
        x.test(inputs(2, 3, 0), 4);
        mendsAre(x, 0);
        NoticeTests same = of("+00", "0");
        same.test(0, 1);
        mendsAre(same, 1, 4, 6);
        same.drop(0);
        same.test(0, 7);
        // 0 and 7, 7 and 0.
        mendsAre(same, 1, 5, 7);
        for (int far : FAR) {
            due("mend(far)", same.mend(far), NONE);
        }
        NoticeTests some = of("-aa", "0");
        some.test(inputs(2, 4, 4), 4);
        // a + a and a * a are 4, b - a and c - a are 2, a - b and a - c are 6.
        mendsAre(some, 2, 0, 1);
    }

    // ---- 5 parting inputs

    private static void parts() {
        about("promise 22");
        NoticeTests x = of("a", "b");
        due("parts(0)", x.parts(0), 448);
        due("8 and 64 are 1 together", x.parts(1), 8);
        x = of("=c71a", "0");
        due("parts(0)", x.parts(0), 64 + 56 * 7);
        due("together is ahead of numbers", x.parts(1), 64);
        x = of("+ab", "+ba");
        due("never", x.parts(0), 0);
        due("never", x.parts(1), NONE);
        x = of("1", "0");
        due("always", x.parts(0), 512);
        due("always", x.parts(1), 0);
        x = of("=a7=b7=c71000", "0");
        due("7 7 7 alone", x.parts(0), 1);
        due("7 7 7 alone", x.parts(1), 511);
        due("parts(2)", x.parts(2), OUTSIDE);
        due("parts(-1)", x.parts(-1), OUTSIDE);
        for (int far : FAR) {
            due("parts(far)", x.parts(far), OUTSIDE);
        }
    }

    private static void less() {
        about("promise 23");
        NoticeTests x = of("1", "0");
        lessIs(x, 511, 0, 3);
        lessIs(x, 0, 0, 0);
        x = of("=c510", "0");
        lessIs(x, inputs(7, 7, 5), inputs(0, 0, 5), 2);
        due("they do not part", x.less(inputs(7, 7, 4), 0), STATE);
        x = of("<c301", "0");
        lessIs(x, 7, 3, 1);
        lessIs(x, 6, 3, 1);
        lessIs(x, 5, 3, 2);
        lessIs(x, 4, 3, 1);
        lessIs(x, 3, 3, 0);
        x = of("<b301", "0");
        lessIs(x, inputs(0, 5, 7), inputs(0, 3, 0), 3);
        x = of("<a301", "0");
        lessIs(x, inputs(5, 5, 5), inputs(3, 0, 0), 4);
        // First c, then b, then a, in each of the three ways.
        x = of("a", "b");
        lessIs(x, inputs(3, 5, 5), inputs(3, 0, 0) - inputs(2, 0, 0), 3);
        x = of("b", "c");
        lessIs(x, inputs(0, 6, 4), inputs(0, 1, 0), 3);
        x = of("<+abc01", "0");
        lessIs(x, inputs(1, 1, 1), 0, 3);
        // Parts where b is not 0 and (c is 3 at least or b is 2 at most): after b half, c 0 is tried again.
        x = of("=b00<c3<b3101", "0");
        lessIs(x, inputs(0, 4, 4), inputs(0, 1, 0), 3);
        // Neither is 0 and one is 3 at least: c half is ahead of b half.
        x = of("=b00=c00<b3<c3011", "0");
        lessIs(x, inputs(0, 5, 5), inputs(0, 3, 1), 4);
        // Both are 3 at least, but not both 3: c 1 less is ahead of b 1 less, b of a.
        lessIs(of("<b30<c30=b3=c3011", "0"), inputs(0, 4, 4), inputs(0, 4, 3), 1);
        lessIs(of("<a30<b30=a3=b3011", "0"), inputs(4, 4, 0), inputs(4, 3, 0), 1);
        due("less(512, 0)", x.less(512, 0), OUTSIDE);
        due("less(-1, 0)", x.less(-1, 0), OUTSIDE);
        due("less(8, 2)", x.less(8, 2), OUTSIDE);
        due("less(8, -1)", x.less(8, -1), OUTSIDE);
        due("they do not part", x.less(0, 1), STATE);
        due("OUTSIDE is ahead of STATE", x.less(0, 2), OUTSIDE);
        for (int far : FAR) {
            due("less(far, 0)", x.less(far, 0), OUTSIDE);
            due("less(8, far)", x.less(8, far), OUTSIDE);
        }
    }

    private static void told() {
        about("promise 24");
        NoticeTests x = of("+ab", "<a3bc");
        x.say('a');
        x.say('~');
        x.test(0, 0);
        x.test(64, 0);
        x.test(8, 0);
        int[] want = {2, 3, 5, 3, 2};
        for (int what = 0; what < want.length; what++) {
            due("told(" + what + ")", x.told(what), want[what]);
        }
        lay(x, "0");
        x.read(0);
        due("told(4)", x.told(4), 0);
        due("told(5)", x.told(5), OUTSIDE);
        due("told(-1)", x.told(-1), OUTSIDE);
        for (int far : FAR) {
            due("told(far)", x.told(far), OUTSIDE);
        }
    }

    private static void refusedChangesNothing() {
        about("refused calls");
        NoticeTests x = sumWithTests();
        x.say('+');
        x.read(0);
        x.read(5);
        x.say(7);
        x.test(600, 1);
        x.drop(4);
        x.less(0, 0);
        x.mend(0);
        due("signs", x.told(0), 1);
        due("NODES", x.told(1), 3);
        due("TESTS", x.told(3), 4);
        manyAre(x, 0, 8, 0, 3);
        fewestIs(x, 14, 3);
        soonIs(x, 3, 2, 1, 3, 0);
    }
}

/** Promises 1 to 8: each sentence of the document that names a boundary case has a test of its own. */
public final class BoundaryTextsTest extends Boundaries {
    private static final String LEAVES = "abc01234567";
    private static final String ACTS = "+-*mM";
    private static final String RELS = "<>=";

    public static void main(String[] args) throws IllegalAccessException {
        runAll(BoundaryTextsTest.class);
    }

    private static void faultOf(String signs, int want) {
        NoticeTests x = new NoticeTests();
        lay(x, signs);
        due("signs of " + signs, x.told(0), signs.length());
        due("fault() of " + signs, x.fault(), want);
    }

    // ---- promise 1: a new object

    @Sentence(promise = 1, says = "TEXTS 0 and 1 (both 0 at first: one NODE, the NUMBER 0)")
    static void bothTextsAreZeroAtFirst() {
        NoticeTests x = new NoticeTests();
        for (int text = 0; text < 2; text++) {
            due("how many NODES", x.told(1 + text), 1);
            due("its sign", x.node(text, 0, 0), '0');
            due("part of none", x.node(text, 0, 1), NONE);
            due("all within", x.node(text, 0, 2), 1);
            due("no further NODE", x.node(text, 1, 0), UNKNOWN);
            for (int inputs = 0; inputs < 512; inputs += 73) {
                due("result", x.result(text, inputs), 0);
                due("runs", x.runs(text, inputs), 1);
            }
        }
        due("the NUMBER 0 has two CHANGES", x.change(-1, 0), 2);
        due("they never part", x.parts(0), 0);
    }

    @Sentence(promise = 1, says = "no TESTS")
    static void noTestsAtFirst() {
        NoticeTests x = new NoticeTests();
        due("told(3)", x.told(3), 0);
        due("told(4)", x.told(4), 0);
        due("of(0, 0)", x.of(0, 0), UNKNOWN);
        due("drop(0)", x.drop(0), UNKNOWN);
        due("change(0, 4)", x.change(0, 4), 0);
        due("the first one's number", x.test(0, 0), 0);
    }

    @Sentence(promise = 1, says = "the PAD is empty")
    static void padIsEmptyAtFirst() {
        due("told(0)", new NoticeTests().told(0), 0);
        due("wipe()", new NoticeTests().wipe(), 0);
        due("fault()", new NoticeTests().fault(), 0);
        due("read(0)", new NoticeTests().read(0), NO);
        due("the first sign", new NoticeTests().say('a'), 1);
    }

    // ---- promise 2: say

    @Sentence(promise = 2, says = "SIGNS (codes 33 to 126)")
    static void everySignFromLeastToGreatestIsLaid() {
        for (int sign = 33; sign <= 126; sign++) {
            due("say(" + sign + ")", new NoticeTests().say(sign), 1);
        }
    }

    @Sentence(promise = 2, says = "OUTSIDE; FULL.")
    static void signTooSmallIsOutside() {
        NoticeTests x = new NoticeTests();
        for (int sign : new int[] {32, 31, 0, -1, -33, -126, Integer.MIN_VALUE, 33 + Integer.MIN_VALUE}) {
            due("say(" + sign + ")", x.say(sign), OUTSIDE);
        }
        due("none was laid", x.told(0), 0);
    }

    @Sentence(promise = 2, says = "OUTSIDE; FULL.")
    static void signTooLargeIsOutside() {
        NoticeTests x = new NoticeTests();
        // Behind the first two: codes whose last 8 or 16 bits are those of a sign.
        for (int sign : new int[] {127, 128, 256 + 'a', 65536 + 'a', Integer.MAX_VALUE}) {
            due("say(" + sign + ")", x.say(sign), OUTSIDE);
        }
        due("none was laid", x.told(0), 0);
    }

    @Sentence(promise = 2, says = "are laid on a PAD, 40 at most")
    static void padTakes40Signs() {
        NoticeTests x = new NoticeTests();
        for (int i = 1; i <= 40; i++) {
            due("say('+')", x.say('+'), i);
        }
        due("the 41st", x.say('+'), FULL);
        due("once more", x.say('a'), FULL);
        due("told(0)", x.told(0), 40);
    }

    @Sentence(promise = 2, says = "the first of these that fits")
    static void outsideIsAheadOfFull() {
        NoticeTests x = new NoticeTests();
        lay(x, "a".repeat(40));
        due("say(32)", x.say(32), OUTSIDE);
        due("say(127)", x.say(127), OUTSIDE);
        due("say(33)", x.say(33), FULL);
    }

    @Sentence(promise = 2, says = "The PAD is emptied")
    static void fullPadHasRoomAfterWipe() {
        NoticeTests x = new NoticeTests();
        lay(x, "~".repeat(40));
        due("say('a')", x.say('a'), FULL);
        x.wipe();
        for (int i = 1; i <= 40; i++) {
            due("say('a')", x.say('a'), i);
        }
        due("the 41st", x.say('a'), FULL);
    }

    // ---- promise 3: wipe

    @Sentence(promise = 3, says = "how many signs there were")
    static void wipeOfAnEmptyPad() {
        NoticeTests x = new NoticeTests();
        due("wipe()", x.wipe(), 0);
        due("wipe() again", x.wipe(), 0);
        due("told(0)", x.told(0), 0);
    }

    @Sentence(promise = 3, says = "how many signs there were")
    static void wipeOfOneSign() {
        NoticeTests x = new NoticeTests();
        x.say('a');
        due("wipe()", x.wipe(), 1);
        due("wipe() again", x.wipe(), 0);
    }

    @Sentence(promise = 3, says = "how many signs there were")
    static void wipeOfAFullPad() {
        NoticeTests x = new NoticeTests();
        lay(x, "+".repeat(40));
        due("wipe()", x.wipe(), 40);
        due("told(0)", x.told(0), 0);
        due("wipe() again", x.wipe(), 0);
    }

    @Sentence(promise = 3, says = "The PAD is emptied")
    static void nothingIsLeftOfTheSignsBefore() {
        NoticeTests x = new NoticeTests();
        lay(x, "+ab");
        x.wipe();
        due("fault()", x.fault(), 0);
        due("read(0)", x.read(0), NO);
        x.say('+');
        x.say('c');
        due("the third sign before is gone", x.fault(), 2);
    }

    // ---- promise 4: fault

    @Sentence(promise = 4, says = "the number of signs, if more must come")
    static void faultOfAnEmptyPad() {
        due("fault()", new NoticeTests().fault(), 0);
        NoticeTests x = of("+ab", "c");
        due("after a read", x.fault(), 0);
    }

    @Sentence(promise = 4, says = "the number of signs, if more must come")
    static void faultWhereMoreMustCome() {
        for (String whole : new String[] {"+ab", "<ab12", "+<ab12M34", "=0=01234=0123"}) {
            for (int some = 0; some < whole.length(); some++) {
                faultOf(whole.substring(0, some), some);
            }
            faultOf(whole, NONE);
        }
    }

    @Sentence(promise = 4, says = "the number of signs, if more must come")
    static void faultOfAFullPadWhereMoreMustCome() {
        faultOf("+" + sumOf(19), 40);
    }

    @Sentence(promise = 4, says = "the first sign that can not stand there")
    static void faultAtTheFirstPlace() {
        for (char sign = 33; sign <= 126; sign++) {
            boolean isLeaf = LEAVES.indexOf(sign) >= 0;
            boolean isAct = (ACTS + RELS).indexOf(sign) >= 0;
            faultOf("" + sign, isLeaf ? NONE : isAct ? 1 : 0);
        }
    }

    @Sentence(promise = 4, says = "the first sign that can not stand there")
    static void faultAfterAWholeText() {
        for (char sign = 33; sign <= 126; sign++) {
            faultOf("a" + sign, 1);
            faultOf("<ab12" + sign, 5);
        }
    }

    @Sentence(promise = 4, says = "the first sign that can not stand there")
    static void faultAtTheLastPlaceOfAFullPad() {
        faultOf(sumOf(19) + "a", 39);
        faultOf("+" + sumOf(18) + "+~", 39);
    }

    @Sentence(promise = 4, says = "the first sign that can not stand there")
    static void faultOfSeveralIsTheFirst() {
        faultOf("~~", 0);
        faultOf("+~~", 1);
        faultOf("+a~~", 2);
        faultOf("ab~", 1);
        faultOf("+8", 1);
        faultOf("++++++++++~", 9);
        faultOf("+++++++++~+", 9);
    }

    @Sentence(promise = 4, says = "No TEXT lies within more than 9 others.")
    static void inputOrNumberMayLieWithin9Others() {
        for (char leaf : LEAVES.toCharArray()) {
            faultOf("+++++++++" + leaf + "aaaaaaaaa", NONE);
            faultOf("+a+a+a+a+a+a+a+a+a" + leaf, NONE);
        }
        faultOf("<00<00<00<00<00<00<00<00<00ab" + "1".repeat(7), 36);
        faultOf("<00<00<00<00<00<00<00<00<00ab" + "1".repeat(8), NONE);
        faultOf("<00<00<00<00<00<00<00<00<00ab" + "1".repeat(9), 37);
    }

    @Sentence(promise = 4, says = "an ACT, a REL can not within 9 others")
    static void actOrRelMayNotLieWithin9Others() {
        for (char sign : (ACTS + RELS).toCharArray()) {
            faultOf("+++++++++" + sign, 9);
            faultOf("+a+a+a+a+a+a+a+a+a" + sign, 18);
            faultOf("<<<<<<<<<" + sign, 9);
            faultOf("=aa1=aa1=aa1=aa1=aa1=aa1=aa1=aa1=aa1" + sign, 36);
        }
    }

    @Sentence(promise = 4, says = "an ACT, a REL can not within 9 others")
    static void actOrRelMayLieWithin8Others() {
        for (char sign : (ACTS + RELS).toCharArray()) {
            String parts = RELS.indexOf(sign) >= 0 ? "abc1" : "ab";
            faultOf("++++++++" + sign + parts + "aaaaaaaa", NONE);
            faultOf("+a+a+a+a+a+a+a+a" + sign + parts, NONE);
        }
    }

    @Sentence(promise = 4, says = "an ACT, a REL can not within 9 others")
    static void afterADeepTextAnActMayStandFurtherOut() {
        // The deepest ACT has both its parts: the next TEXT lies within 8, the one after it within 7.
        faultOf("+++++++++ab+ab" + "+ab" + "aaaaaa", NONE);
        faultOf("+++++++++a+", 10);
        faultOf("+++++++++ab++", 12);
    }

    @Sentence(promise = 4, says = "THE FAULT of the PAD; NONE.")
    static void noFaultThoughThereAreMoreThan24Nodes() {
        faultOf(sumOf(12), NONE);
        faultOf(sumOf(19), NONE);
    }

    // ---- promise 5: read

    @Sentence(promise = 5, says = "UNKNOWN: TEXT 0, 1")
    static void readOfNoSuchText() {
        NoticeTests x = new NoticeTests();
        lay(x, "a");
        for (int text : new int[] {-1, 2, Integer.MIN_VALUE, Integer.MAX_VALUE}) {
            due("read(" + text + ")", x.read(text), UNKNOWN);
        }
        due("the PAD stays", x.told(0), 1);
    }

    @Sentence(promise = 5, says = "FULL: more than 24 NODES")
    static void readOf23Nodes() {
        // Every TEXT has an odd number of NODES: 23 is the most that is not above 24.
        NoticeTests x = new NoticeTests();
        for (int text = 0; text < 2; text++) {
            lay(x, sumOf(11));
            due("read", x.read(text), 23);
            due("told", x.told(1 + text), 23);
            due("the last NODE", x.node(text, 22, 0), 'a');
            due("12 times a", x.result(text, inputs(1, 0, 0)), 4);
        }
    }

    @Sentence(promise = 5, says = "FULL: more than 24 NODES")
    static void readOf25NodesAndMore() {
        NoticeTests x = new NoticeTests();
        for (int acts = 12; acts <= 19; acts++) {
            lay(x, sumOf(acts));
            due("read(0) of " + x.told(0), x.read(0), FULL);
            due("read(1) of " + x.told(0), x.read(1), FULL);
            due("the PAD stays", x.told(0), 2 * acts + 1);
            due("TEXT 0 stays", x.told(1), 1);
            due("TEXT 1 stays", x.told(2), 1);
        }
    }

    @Sentence(promise = 5, says = "NO: there is a FAULT")
    static void readOfAnEmptyPad() {
        NoticeTests x = of("a", "b");
        due("read(0)", x.read(0), NO);
        due("read(1)", x.read(1), NO);
        due("TEXT 0 stays", x.node(0, 0, 0), 'a');
        due("TEXT 1 stays", x.node(1, 0, 0), 'b');
    }

    @Sentence(promise = 5, says = "NO: there is a FAULT")
    static void readOfFaults() {
        for (String signs : new String[] {"+", "+a", "<ab1", "aa", "~", "+a8", "++++++++++aaaaaaaaaaa"}) {
            NoticeTests x = new NoticeTests();
            lay(x, signs);
            due("read(0) of " + signs, x.read(0), NO);
            due("read(1) of " + signs, x.read(1), NO);
            due("the PAD stays", x.told(0), signs.length());
        }
    }

    @Sentence(promise = 5, says = "(ahead of FULL)")
    static void noIsAheadOfFull() {
        NoticeTests x = new NoticeTests();
        lay(x, sumOf(12) + "a");
        due("26 signs, one too many", x.read(0), NO);
        lay(x, "+" + sumOf(12));
        due("26 signs, more must come", x.read(1), NO);
        lay(x, "+".repeat(40));
        due("40 signs", x.read(0), NO);
        lay(x, sumOf(11) + "a");
        due("24 signs", x.read(0), NO);
    }

    @Sentence(promise = 5, says = "the first of these that fits")
    static void unknownIsAheadOfFullAndNo() {
        NoticeTests x = new NoticeTests();
        due("no signs", x.read(2), UNKNOWN);
        lay(x, sumOf(12));
        due("25 NODES", x.read(2), UNKNOWN);
        due("25 NODES", x.read(-1), UNKNOWN);
    }

    @Sentence(promise = 5, says = "it is empty then")
    static void padIsEmptyAfterRead() {
        NoticeTests x = new NoticeTests();
        lay(x, "+ab");
        due("read(0)", x.read(0), 3);
        due("told(0)", x.told(0), 0);
        due("fault()", x.fault(), 0);
        due("read(1)", x.read(1), NO);
        due("wipe()", x.wipe(), 0);
        due("say('c')", x.say('c'), 1);
    }

    @Sentence(promise = 5, says = "TESTS stay")
    static void all14TestsStayAfterRead() {
        NoticeTests x = new NoticeTests();
        for (int i = 0; i < 14; i++) {
            x.test(511 - i, i % 8);
        }
        lay(x, "c");
        x.read(0);
        lay(x, "+ab");
        x.read(1);
        due("told(3)", x.told(3), 14);
        for (int i = 0; i < 14; i++) {
            due("of(" + i + ", 0)", x.of(i, 0), 511 - i);
            due("of(" + i + ", 1)", x.of(i, 1), i % 8);
            due("of(" + i + ", 2)", x.of(i, 2), (511 - i) % 8 == i % 8 ? 0 : 1);
        }
        due("no room", x.test(0, 0), FULL);
    }

    @Sentence(promise = 5, says = "No TEXT lies within more than 9 others.")
    static void deepestTextIsReadAndWorkedOut() {
        NoticeTests x = of("+++++++++a11111111b", "-7-7-7-7-7-7-7-7-7c");
        due("a and b and 8", x.result(0, inputs(3, 4, 0)), 7);
        due("7 less c", x.result(1, 2), 5);
        due("the deepest one's owner", x.node(0, 9, 1), 8);
        due("the last one's owner", x.node(0, 18, 1), 0);
        due("all are RUN", x.runs(1, 0), (1 << 19) - 1);
    }

    // ---- promise 6: node

    @Sentence(promise = 6, says = "1 the NODE whose part it is (NONE)")
    static void firstNodeIsPartOfNone() {
        NoticeTests x = of("<ab+12c", "a");
        due("of TEXT 0", x.node(0, 0, 1), NONE);
        due("of TEXT 1", x.node(1, 0, 1), NONE);
        for (int node = 1; node < 7; node++) {
            due("of a later one", x.node(0, node, 1), node == 4 || node == 5 ? 3 : 0);
        }
        lay(x, "b");
        x.read(0);
        due("of a shorter TEXT", x.node(0, 0, 1), NONE);
    }

    @Sentence(promise = 6, says = "2 how many NODES it has with all within")
    static void oneNodeAloneAndAllNodes() {
        NoticeTests x = of(sumOf(11), "7");
        due("all", x.node(0, 0, 2), 23);
        due("the last alone", x.node(0, 22, 2), 1);
        due("one alone", x.node(1, 0, 2), 1);
    }

    @Sentence(promise = 6, says = "NODES are numbered as they are written")
    static void everyNodeOfTheLargestText() {
        String signs = "+<<ab12>c03456=a5*01-c7";
        NoticeTests x = of(signs, "0");
        due("how many", x.told(1), 23);
        for (int node = 0; node < signs.length(); node++) {
            due("node(0, " + node + ", 0)", x.node(0, node, 0), signs.charAt(node));
        }
    }

    @Sentence(promise = 6, says = "UNKNOWN; OUTSIDE.")
    static void nodeOfNoSuchText() {
        NoticeTests x = of("+ab", "c");
        for (int text : new int[] {-1, 2, Integer.MIN_VALUE, Integer.MAX_VALUE}) {
            due("node(" + text + ", 0, 0)", x.node(text, 0, 0), UNKNOWN);
        }
    }

    @Sentence(promise = 6, says = "UNKNOWN; OUTSIDE.")
    static void noSuchNode() {
        NoticeTests x = of("+ab", "c");
        for (int node : new int[] {-1, 3, 23, 24, Integer.MIN_VALUE, Integer.MAX_VALUE}) {
            due("node(0, " + node + ", 0)", x.node(0, node, 0), UNKNOWN);
        }
        due("there is one in TEXT 0 alone", x.node(1, 1, 0), UNKNOWN);
        due("it was there before", x.node(0, 2, 0), 'b');
        lay(x, "c");
        x.read(0);
        due("it was there before", x.node(0, 2, 0), UNKNOWN);
    }

    @Sentence(promise = 6, says = "UNKNOWN; OUTSIDE.")
    static void nodeAskedForNothingTold() {
        NoticeTests x = of("+ab", "c");
        for (int what : new int[] {-1, 3, Integer.MIN_VALUE, Integer.MAX_VALUE}) {
            due("node(0, 0, " + what + ")", x.node(0, 0, what), OUTSIDE);
            due("no such NODE is ahead", x.node(0, 3, what), UNKNOWN);
            due("no such TEXT is ahead", x.node(2, 0, what), UNKNOWN);
        }
    }

    // ---- promise 7: result

    @Sentence(promise = 7, says = "a, b, c, 0 to 7 each, as a number 64 a and 8 b and c: 0 to 511")
    static void resultForTheLeastAndTheGreatestInputs() {
        String[] texts = {"a", "b", "c"};
        for (int i = 0; i < 3; i++) {
            NoticeTests x = of("0", texts[i]);
            due(texts[i] + " for 0", x.result(1, 0), 0);
            due(texts[i] + " for 511", x.result(1, 511), 7);
            // Where one of them ends, and the next one goes on.
            due(texts[i] + " for 7", x.result(1, 7), new int[] {0, 0, 7}[i]);
            due(texts[i] + " for 8", x.result(1, 8), new int[] {0, 1, 0}[i]);
            due(texts[i] + " for 63", x.result(1, 63), new int[] {0, 7, 7}[i]);
            due(texts[i] + " for 64", x.result(1, 64), new int[] {1, 0, 0}[i]);
            due(texts[i] + " for 448", x.result(1, 448), new int[] {7, 0, 0}[i]);
        }
    }

    @Sentence(promise = 7, says = "UNKNOWN; OUTSIDE.")
    static void resultForInputsTooSmallOrTooLarge() {
        NoticeTests x = of("+ab", "c");
        for (int inputs : new int[] {-1, -8, -64, 512, 513, 1024, Integer.MIN_VALUE, Integer.MAX_VALUE}) {
            due("result(0, " + inputs + ")", x.result(0, inputs), OUTSIDE);
            due("result(1, " + inputs + ")", x.result(1, inputs), OUTSIDE);
        }
    }

    @Sentence(promise = 7, says = "UNKNOWN; OUTSIDE.")
    static void resultOfNoSuchText() {
        NoticeTests x = of("+ab", "c");
        for (int text : new int[] {-1, 2, Integer.MIN_VALUE, Integer.MAX_VALUE}) {
            due("result(" + text + ", 0)", x.result(text, 0), UNKNOWN);
            due("UNKNOWN is ahead of OUTSIDE", x.result(text, 512), UNKNOWN);
            due("UNKNOWN is ahead of OUTSIDE", x.result(text, -1), UNKNOWN);
        }
    }

    @Sentence(promise = 7, says = "All numbers are left over by 8 (0 to 7).")
    static void sumGoesRound() {
        NoticeTests x = of("+ab", "+77");
        due("7 and 1", x.result(0, inputs(7, 1, 0)), 0);
        due("1 and 7", x.result(0, inputs(1, 7, 0)), 0);
        due("4 and 4", x.result(0, inputs(4, 4, 0)), 0);
        due("7 and 0", x.result(0, inputs(7, 0, 0)), 7);
        due("7 and 7", x.result(0, inputs(7, 7, 0)), 6);
        due("7 and 7", x.result(1, 0), 6);
    }

    @Sentence(promise = 7, says = "All numbers are left over by 8 (0 to 7).")
    static void lessGoesRound() {
        NoticeTests x = of("-ab", "-01");
        due("0 less 1", x.result(0, inputs(0, 1, 0)), 7);
        due("0 less 7", x.result(0, inputs(0, 7, 0)), 1);
        due("6 less 7", x.result(0, inputs(6, 7, 0)), 7);
        due("7 less 7", x.result(0, inputs(7, 7, 0)), 0);
        due("7 less 0", x.result(0, inputs(7, 0, 0)), 7);
        due("0 less 1", x.result(1, 0), 7);
    }

    @Sentence(promise = 7, says = "All numbers are left over by 8 (0 to 7).")
    static void productGoesRound() {
        NoticeTests x = of("*ab", "*77");
        due("7 by 7", x.result(0, inputs(7, 7, 0)), 1);
        due("4 by 2", x.result(0, inputs(4, 2, 0)), 0);
        due("2 by 4", x.result(0, inputs(2, 4, 0)), 0);
        due("3 by 3", x.result(0, inputs(3, 3, 0)), 1);
        due("7 by 1", x.result(0, inputs(7, 1, 0)), 7);
        due("7 by 0", x.result(0, inputs(7, 0, 0)), 0);
        due("7 by 7", x.result(1, 0), 1);
    }

    @Sentence(promise = 7, says = "All numbers are left over by 8 (0 to 7).")
    static void whatHasGoneRoundIsWeighedAsItIs() {
        NoticeTests x = of("<+a1a56", "M-0ba");
        due("7 and 1 is below 7", x.result(0, inputs(7, 0, 0)), 5);
        due("6 and 1 is not below 6", x.result(0, inputs(6, 0, 0)), 6);
        due("0 less 1 is the greater one", x.result(1, inputs(6, 1, 0)), 7);
    }

    @Sentence(promise = 7, says = "if the first stands so to the second, the third one, else the fourth")
    static void relWhereBothAreTheSame() {
        NoticeTests x = of("<ab12", ">ab12");
        NoticeTests same = of("=ab12", "=ba12");
        for (int number = 0; number < 8; number++) {
            int inputs = inputs(number, number, 3);
            due("not less", x.result(0, inputs), 2);
            due("not greater", x.result(1, inputs), 2);
            due("the same", same.result(0, inputs), 1);
            due("the same", same.result(1, inputs), 1);
        }
    }

    @Sentence(promise = 7, says = "if the first stands so to the second, the third one, else the fourth")
    static void relWhereOneIsOneMore() {
        NoticeTests x = of("<ab12", ">ab12");
        NoticeTests same = of("=ab12", "0");
        for (int number = 0; number < 7; number++) {
            int up = inputs(number, number + 1, 3);
            int down = inputs(number + 1, number, 3);
            due("less", x.result(0, up), 1);
            due("not less", x.result(0, down), 2);
            due("not greater", x.result(1, up), 2);
            due("greater", x.result(1, down), 1);
            due("not the same", same.result(0, up), 2);
            due("not the same", same.result(0, down), 2);
        }
    }

    @Sentence(promise = 7, says = "m the lesser, M the greater one of both")
    static void lesserAndGreaterAtTheEdges() {
        NoticeTests x = of("mab", "Mab");
        int[][] edges = {{0, 0, 0, 0}, {7, 7, 7, 7}, {0, 7, 0, 7}, {7, 0, 0, 7}, {3, 4, 3, 4}, {4, 3, 3, 4}};
        for (int[] edge : edges) {
            due("mab", x.result(0, inputs(edge[0], edge[1], 5)), edge[2]);
            due("Mab", x.result(1, inputs(edge[0], edge[1], 5)), edge[3]);
        }
    }

    // ---- promise 8: runs

    @Sentence(promise = 8, says = "NODES of a TEXT that are RUN for INPUTS, as bits")
    static void oneNodeIsRun() {
        NoticeTests x = of("c", "0");
        due("runs(0, 0)", x.runs(0, 0), 1);
        due("runs(0, 511)", x.runs(0, 511), 1);
        due("runs(1, 511)", x.runs(1, 511), 1);
    }

    @Sentence(promise = 8, says = "NODES of a TEXT that are RUN for INPUTS, as bits")
    static void all23NodesAreRun() {
        NoticeTests x = of(sumOf(11), sumOf(11));
        due("runs(0, 0)", x.runs(0, 0), 0x7FFFFF);
        due("runs(1, 511)", x.runs(1, 511), 0x7FFFFF);
    }

    @Sentence(promise = 8, says = "all but those of the third or fourth TEXT of a REL that is not taken")
    static void runsWhereBothAreTheSame() {
        due("<", of("<ab12", "0").runs(0, inputs(3, 3, 0)), 0b10111);
        due(">", of(">ab12", "0").runs(0, inputs(3, 3, 0)), 0b10111);
        due("=", of("=ab12", "0").runs(0, inputs(3, 3, 0)), 0b01111);
        due("<", of("<ab12", "0").runs(0, inputs(2, 3, 0)), 0b01111);
        due(">", of(">ab12", "0").runs(0, inputs(4, 3, 0)), 0b01111);
        due("=", of("=ab12", "0").runs(0, inputs(4, 3, 0)), 0b10111);
    }

    @Sentence(promise = 8, says = "all but those of the third or fourth TEXT of a REL that is not taken")
    static void allWithinATextNotTakenIsNotRun() {
        // NODES: 0 <, 1 a, 2 b, 3 to 9 +<bc12c, 10 to 12 *ab.
        NoticeTests x = of("<ab+<bc12c*ab", "0");
        due("the fourth", x.runs(0, inputs(1, 1, 0)), 0b111_0000000_111);
        due("the third, its fourth", x.runs(0, inputs(0, 1, 1)), 0b000_1101111_111);
        due("the third, its third", x.runs(0, inputs(0, 1, 2)), 0b000_1011111_111);
    }

    @Sentence(promise = 8, says = "all but those of the third or fourth TEXT of a REL that is not taken")
    static void likeTextsOfARelAreNotBothRun() {
        NoticeTests x = of("=0012", "<aacc");
        due("the third alone", x.runs(0, 0), 0b01111);
        due("the fourth alone", x.runs(1, 5), 0b10111);
    }

    @Sentence(promise = 8, says = "UNKNOWN; OUTSIDE.")
    static void runsForInputsTooSmallOrTooLarge() {
        NoticeTests x = of("+ab", "c");
        for (int inputs : new int[] {-1, -64, 512, 1024, Integer.MIN_VALUE, Integer.MAX_VALUE}) {
            due("runs(0, " + inputs + ")", x.runs(0, inputs), OUTSIDE);
            due("runs(1, " + inputs + ")", x.runs(1, inputs), OUTSIDE);
        }
        due("runs(0, 0)", x.runs(0, 0), 7);
        due("runs(0, 511)", x.runs(0, 511), 7);
    }

    @Sentence(promise = 8, says = "UNKNOWN; OUTSIDE.")
    static void runsOfNoSuchText() {
        NoticeTests x = of("+ab", "c");
        for (int text : new int[] {-1, 2, Integer.MIN_VALUE, Integer.MAX_VALUE}) {
            due("runs(" + text + ", 0)", x.runs(text, 0), UNKNOWN);
            due("UNKNOWN is ahead of OUTSIDE", x.runs(text, 512), UNKNOWN);
            due("UNKNOWN is ahead of OUTSIDE", x.runs(text, -1), UNKNOWN);
        }
    }
}

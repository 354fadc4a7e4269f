/** Promises 9 to 15: each sentence of the document that names a boundary case has a test of its own. */
public final class BoundaryChangesTest extends Boundaries {
    /** 1 for a = b = c = 7 alone; its CHANGES 18 and 19 are those of the 1. */
    private static final String AT_511 = "=a7=b7=c71000";

    public static void main(String[] args) throws IllegalAccessException {
        runAll(BoundaryChangesTest.class);
    }

    private static NoticeTests withFullTests() {
        NoticeTests x = of("a", "0");
        for (int i = 0; i < 14; i++) {
            x.test(511 - i, i % 8);
        }
        return x;
    }

    // ---- promise 9: change

    @Sentence(promise = 9, says = "how many (i = -1)")
    static void fewestAndMostChanges() {
        due("of a new object", new NoticeTests().change(-1, 0), 2);
        due("of an INPUT", of("c", "0").change(-1, 0), 2);
        due("of 11 ACTS and 12 INPUTS", of(sumOf(11), "0").change(-1, 0), 68);
        due("TEXT 1 has none", of("0", sumOf(11)).change(-1, 0), 2);
    }

    @Sentence(promise = 9, says = "UNKNOWN: i below -1, too")
    static void changeBelowMinusOneIsUnknown() {
        NoticeTests x = of("+ab", "0");
        for (int i : new int[] {-2, -3, -1000, Integer.MIN_VALUE}) {
            for (int what = 0; what < 6; what++) {
                due("change(" + i + ", " + what + ")", x.change(i, what), UNKNOWN);
            }
        }
    }

    @Sentence(promise = 9, says = "UNKNOWN: i below -1, too; OUTSIDE.")
    static void changeTooLargeIsUnknown() {
        NoticeTests x = of("+ab", "0");
        for (int what = 0; what < 6; what++) {
            due("change(8, " + what + ")", x.change(8, what), UNKNOWN);
            due("change(96, " + what + ")", x.change(96, what), UNKNOWN);
            due("the greatest number", x.change(Integer.MAX_VALUE, what), UNKNOWN);
        }
        due("the last one", x.change(7, 0), 2);
        lay(x, "c");
        x.read(0);
        due("it was there before", x.change(2, 0), UNKNOWN);
        due("the last one now", x.change(1, 1), 'b');
        NoticeTests largest = of(sumOf(11), "0");
        due("the last one of 68", largest.change(67, 1), 'c');
        due("the one after it", largest.change(68, 1), UNKNOWN);
    }

    @Sentence(promise = 9, says = "UNKNOWN: i below -1, too; OUTSIDE.")
    static void changeAskedForNothingTold() {
        NoticeTests x = of("+ab", "0");
        for (int what : new int[] {-1, 6, Integer.MIN_VALUE, Integer.MAX_VALUE}) {
            due("change(0, " + what + ")", x.change(0, what), OUTSIDE);
            due("change(7, " + what + ")", x.change(7, what), OUTSIDE);
        }
    }

    @Sentence(promise = 9, says = "the first of these that fits")
    static void unknownChangeIsAheadOfOutside() {
        NoticeTests x = of("+ab", "0");
        for (int what : new int[] {-1, 6, Integer.MIN_VALUE, Integer.MAX_VALUE}) {
            due("change(8, " + what + ")", x.change(8, what), UNKNOWN);
            due("change(-2, " + what + ")", x.change(-2, what), UNKNOWN);
        }
    }

    @Sentence(promise = 9, says = "a NUMBER 1 more, then 1 less (left over by 8)")
    static void numberGoesRound() {
        NoticeTests zero = of("0", "0");
        due("0 and 1", zero.change(0, 1), '1');
        due("0 less 1", zero.change(1, 1), '7');
        NoticeTests seven = of("7", "0");
        due("7 and 1", seven.change(0, 1), '0');
        due("7 less 1", seven.change(1, 1), '6');
        for (char number = '1'; number < '7'; number++) {
            NoticeTests x = of("" + number, "0");
            due("1 more", x.change(0, 1), number + 1);
            due("1 less", x.change(1, 1), number - 1);
        }
    }

    @Sentence(promise = 9, says = "an ACT becomes each other one in the order + - * m M")
    static void firstAndLastActLeaveThemselvesOut() {
        for (String[] one : new String[][] {{"+ab", "-*mM"}, {"*ab", "+-mM"}, {"Mab", "+-*m"}}) {
            NoticeTests x = of(one[0], "0");
            for (int i = 0; i < 4; i++) {
                due("change(" + i + ", 1)", x.change(i, 1), one[1].charAt(i));
            }
            due("the next NODE's", x.change(4, 0), 1);
        }
    }

    @Sentence(promise = 9, says = "a REL each other one of < > =; an INPUT each other one of a b c")
    static void firstAndLastRelAndInputLeaveThemselvesOut() {
        for (String[] one : new String[][] {{"<a01c", ">=bc"}, {">b01a", "<=ac"}, {"=c01b", "<>ab"}}) {
            NoticeTests x = of(one[0], "0");
            for (int i = 0; i < 4; i++) {
                due("change(" + i + ", 0)", x.change(i, 0), i / 2);
                due("change(" + i + ", 1)", x.change(i, 1), one[1].charAt(i));
            }
        }
    }

    @Sentence(promise = 9, says = "for how many INPUTS the RESULT is another one (2)")
    static void anotherResultForNoneForOneForAll() {
        NoticeTests none = of("maa", "0");
        due("M instead of m", none.change(3, 2), 0);
        NoticeTests one = of(AT_511, "0");
        due("2 instead of 1", one.change(18, 2), 1);
        due("0 instead of 1", one.change(19, 2), 1);
        NoticeTests all = of("+a0", "0");
        due("1 instead of 0", all.change(6, 2), 512);
        due("7 instead of 0", all.change(7, 2), 512);
    }

    @Sentence(promise = 9, says = "3 whether NOTICED (1, 0)")
    static void noticedByNoneByOneByAll() {
        NoticeTests x = of(AT_511, "0");
        due("without TESTS", x.change(18, 3), 0);
        x.test(510, 0);
        due("by none", x.change(18, 3), 0);
        x.test(511, 1);
        due("by one", x.change(18, 3), 1);
        x.drop(0);
        due("by all", x.change(18, 3), 1);
        x.drop(0);
        due("without TESTS again", x.change(18, 3), 0);
    }

    @Sentence(promise = 9, says = "4 TESTS that notice it, as bits")
    static void noTestTheFirstTheLastAll14Notice() {
        NoticeTests x = of("a", "0");
        due("no TESTS", x.change(0, 4), 0);
        x.test(inputs(1, 0, 0), 0);
        due("the first", x.change(0, 4), 1);
        addTests(x, 0, 0, 0, 0, 0, 0, 0, 0, 0, 0, 0, 0, 0);
        x.test(inputs(0, 1, 1), 0);
        due("the first and the last of 14", x.change(0, 4), 8193);
        due("the first and the last of 14", x.change(1, 4), 8193);
        NoticeTests all = of("a", "0");
        for (int i = 0; i < 14; i++) {
            all.test(inputs(1, 0, 0), 0);
        }
        due("all 14", all.change(1, 4), 16383);
    }

    @Sentence(promise = 9, says = "(whatever is DUE)")
    static void testsThatFailNoticeAsWell() {
        NoticeTests x = of("a", "0");
        for (int due = 0; due < 8; due++) {
            x.test(inputs(3, 0, 0), due);
        }
        due("all of them", x.change(0, 4), 255);
        due("3 alone does not FAIL", x.told(4), 7);
    }

    @Sentence(promise = 9, says = "which is NOTICED, too")
    static void behindNoneThatIsNotNoticed() {
        NoticeTests x = of("a", "0");
        x.test(inputs(1, 0, 1), 1);
        due("b instead of a is NOTICED", x.change(0, 3), 1);
        due("c instead of a is not", x.change(1, 3), 0);
        due("not BEHIND it", x.change(0, 5), 0);
    }

    @Sentence(promise = 9, says = "which is NOTICED, too")
    static void oneThatIsNotNoticedIsBehindNone() {
        NoticeTests x = of("a", "0");
        x.test(inputs(1, 0, 1), 1);
        due("c instead of a", x.change(1, 5), 0);
        NoticeTests none = of("+ab", "0");
        for (int i = 0; i < 8; i++) {
            due("without TESTS", none.change(i, 5), 0);
        }
    }

    @Sentence(promise = 9, says = "and by one more at least")
    static void behindByJustOneMore() {
        NoticeTests x = of("a", "0");
        x.test(inputs(1, 0, 1), 1);
        x.test(inputs(1, 0, 0), 1);
        due("noticed by both", x.change(0, 4), 3);
        due("noticed by the second", x.change(1, 4), 2);
        due("BEHIND the other", x.change(0, 5), 1);
        due("BEHIND none", x.change(1, 5), 0);
    }

    @Sentence(promise = 9, says = "and by one more at least")
    static void noneIsBehindOneNoticedByTheSameTests() {
        NoticeTests x = of("a", "0");
        x.test(inputs(1, 0, 0), 1);
        x.test(inputs(2, 0, 0), 2);
        due("the same TESTS", x.change(0, 4), x.change(1, 4));
        due("change(0, 5)", x.change(0, 5), 0);
        due("change(1, 5)", x.change(1, 5), 0);
    }

    @Sentence(promise = 9, says = "if it is NOTICED by all TESTS that notice the other one")
    static void noneIsBehindOneThatATestMoreNotices() {
        NoticeTests x = of("a", "0");
        x.test(inputs(1, 0, 1), 1);
        x.test(inputs(1, 1, 0), 1);
        due("by the first alone", x.change(0, 4), 1);
        due("by the second alone", x.change(1, 4), 2);
        due("change(0, 5)", x.change(0, 5), 0);
        due("change(1, 5)", x.change(1, 5), 0);
    }

    // ---- promise 10: by

    @Sentence(promise = 10, says = "UNKNOWN; OUTSIDE.")
    static void byNoSuchChange() {
        NoticeTests x = of("+ab", "0");
        // Here -1 is no question of how many.
        for (int change : new int[] {-1, -2, 8, 96, Integer.MIN_VALUE, Integer.MAX_VALUE}) {
            due("by(" + change + ", 0)", x.by(change, 0), UNKNOWN);
            due("UNKNOWN is ahead of OUTSIDE", x.by(change, 512), UNKNOWN);
            due("UNKNOWN is ahead of OUTSIDE", x.by(change, -1), UNKNOWN);
        }
        due("the last one", x.by(7, inputs(1, 2, 3)), 4);
        lay(x, "c");
        x.read(0);
        due("it was there before", x.by(7, 0), UNKNOWN);
        due("it was there before", x.by(2, 0), UNKNOWN);
    }

    @Sentence(promise = 10, says = "UNKNOWN; OUTSIDE.")
    static void byForInputsTooSmallOrTooLarge() {
        NoticeTests x = of("a", "0");
        for (int inputs : new int[] {-1, 512, Integer.MIN_VALUE, Integer.MAX_VALUE}) {
            due("by(0, " + inputs + ")", x.by(0, inputs), OUTSIDE);
            due("by(1, " + inputs + ")", x.by(1, inputs), OUTSIDE);
        }
        due("the least", x.by(0, 0), 0);
        due("the greatest", x.by(1, 511), 7);
    }

    @Sentence(promise = 10, says = "All numbers are left over by 8 (0 to 7).")
    static void resultByAChangeGoesRound() {
        NoticeTests x = of("+a7", "0");
        // CHANGES: - * m M of the ACT, b c of the INPUT, 0 6 of the NUMBER.
        due("0 less 7", x.by(0, inputs(0, 0, 0)), 1);
        due("7 by 7", x.by(1, inputs(7, 0, 0)), 1);
        due("b and 7", x.by(4, inputs(0, 7, 0)), 6);
        due("7 and 0", x.by(6, inputs(7, 0, 0)), 7);
        due("7 and 6", x.by(7, inputs(7, 0, 0)), 5);
        NoticeTests seven = of("7", "0");
        due("7 and 1", seven.by(0, 0), 0);
        NoticeTests zero = of("0", "0");
        due("0 less 1", zero.by(1, 511), 7);
    }

    // ---- promise 11: test

    @Sentence(promise = 11, says = "TESTS, 14 at most")
    static void the15thTestIsRefused() {
        NoticeTests x = new NoticeTests();
        for (int i = 0; i < 14; i++) {
            due("test(" + i + ", 0)", x.test(i, 0), i);
        }
        due("the 15th", x.test(14, 0), FULL);
        due("once more", x.test(0, 0), FULL);
        due("told(3)", x.told(3), 14);
        due("the last one stays", x.of(13, 0), 13);
        due("no 15th", x.of(14, 0), UNKNOWN);
    }

    @Sentence(promise = 11, says = "later ones move up")
    static void thereIsRoomAfterADrop() {
        NoticeTests x = withFullTests();
        due("full", x.test(0, 0), FULL);
        x.drop(5);
        due("the 14th again", x.test(7, 3), 13);
        due("of(13, 0)", x.of(13, 0), 7);
        due("of(13, 1)", x.of(13, 1), 3);
        due("full again", x.test(0, 0), FULL);
    }

    @Sentence(promise = 11, says = "numbered from 0 on: INPUTS and what is DUE (0 to 7)")
    static void leastAndGreatestInputsAndDue() {
        NoticeTests x = of("a", "0");
        due("test(0, 0)", x.test(0, 0), 0);
        due("test(511, 7)", x.test(511, 7), 1);
        due("test(0, 7)", x.test(0, 7), 2);
        due("test(511, 0)", x.test(511, 0), 3);
        int[][] want = {{0, 0, 0}, {511, 7, 0}, {0, 7, 1}, {511, 0, 1}};
        for (int i = 0; i < 4; i++) {
            for (int what = 0; what < 3; what++) {
                due("of(" + i + ", " + what + ")", x.of(i, what), want[i][what]);
            }
        }
    }

    @Sentence(promise = 11, says = "OUTSIDE; FULL.")
    static void testWithInputsTooSmallOrTooLarge() {
        NoticeTests x = new NoticeTests();
        for (int inputs : new int[] {-1, -64, 512, 1024, Integer.MIN_VALUE, Integer.MAX_VALUE}) {
            due("test(" + inputs + ", 0)", x.test(inputs, 0), OUTSIDE);
            due("test(" + inputs + ", 7)", x.test(inputs, 7), OUTSIDE);
        }
        due("there is none", x.told(3), 0);
    }

    @Sentence(promise = 11, says = "OUTSIDE; FULL.")
    static void testWithDueTooSmallOrTooLarge() {
        NoticeTests x = new NoticeTests();
        for (int due : new int[] {-1, -8, 8, 9, 16, Integer.MIN_VALUE, Integer.MAX_VALUE}) {
            due("test(0, " + due + ")", x.test(0, due), OUTSIDE);
            due("test(511, " + due + ")", x.test(511, due), OUTSIDE);
        }
        due("there is none", x.told(3), 0);
    }

    @Sentence(promise = 11, says = "the first of these that fits")
    static void outsideIsAheadOfFullTests() {
        NoticeTests x = withFullTests();
        due("test(512, 0)", x.test(512, 0), OUTSIDE);
        due("test(-1, 0)", x.test(-1, 0), OUTSIDE);
        due("test(0, 8)", x.test(0, 8), OUTSIDE);
        due("test(0, -1)", x.test(0, -1), OUTSIDE);
        due("test(511, 7)", x.test(511, 7), FULL);
    }

    // ---- promise 12: drop

    @Sentence(promise = 12, says = "its INPUTS. UNKNOWN.")
    static void dropWhereThereAreNone() {
        NoticeTests x = new NoticeTests();
        for (int test : new int[] {0, -1, 1, 13, 14, Integer.MIN_VALUE, Integer.MAX_VALUE}) {
            due("drop(" + test + ")", x.drop(test), UNKNOWN);
        }
        due("told(3)", x.told(3), 0);
        due("the first one's number", x.test(0, 0), 0);
    }

    @Sentence(promise = 12, says = "its INPUTS. UNKNOWN.")
    static void dropOfNoSuchTest() {
        NoticeTests some = sumWithTests();
        for (int test : new int[] {-1, 4, 14, Integer.MIN_VALUE, Integer.MAX_VALUE}) {
            due("drop(" + test + ")", some.drop(test), UNKNOWN);
        }
        due("told(3)", some.told(3), 4);
        NoticeTests full = withFullTests();
        due("drop(14)", full.drop(14), UNKNOWN);
        due("drop(-1)", full.drop(-1), UNKNOWN);
        due("told(3)", full.told(3), 14);
    }

    @Sentence(promise = 12, says = "later ones move up")
    static void dropOfTheFirstOf14() {
        NoticeTests x = withFullTests();
        due("drop(0)", x.drop(0), 511);
        due("told(3)", x.told(3), 13);
        for (int i = 0; i < 13; i++) {
            due("of(" + i + ", 0)", x.of(i, 0), 510 - i);
            due("of(" + i + ", 1)", x.of(i, 1), (i + 1) % 8);
        }
        due("no 14th", x.of(13, 0), UNKNOWN);
    }

    @Sentence(promise = 12, says = "later ones move up")
    static void dropOfTheLastOf14() {
        NoticeTests x = withFullTests();
        due("drop(13)", x.drop(13), 498);
        due("drop(13) again", x.drop(13), UNKNOWN);
        for (int i = 0; i < 13; i++) {
            due("of(" + i + ", 0)", x.of(i, 0), 511 - i);
            due("of(" + i + ", 1)", x.of(i, 1), i % 8);
        }
    }

    @Sentence(promise = 12, says = "later ones move up")
    static void dropOfTheOnlyOne() {
        NoticeTests x = of("a", "0");
        x.test(64, 0);
        due("drop(0)", x.drop(0), 64);
        due("drop(0) again", x.drop(0), UNKNOWN);
        due("told(3)", x.told(3), 0);
        due("told(4)", x.told(4), 0);
        due("noticed by none", x.change(0, 4), 0);
    }

    @Sentence(promise = 12, says = "later ones move up")
    static void whatTheyNoticeMovesUpToo() {
        NoticeTests x = of("a", "0");
        addTests(x, 0, 0, inputs(1, 0, 1), inputs(1, 1, 0));
        due("by TEST 1", x.change(0, 4), 2);
        due("by TEST 2", x.change(1, 4), 4);
        due("drop(0)", x.drop(0), 0);
        due("by TEST 0", x.change(0, 4), 1);
        due("by TEST 1", x.change(1, 4), 2);
        due("of(1, 3)", x.of(1, 3), 1);
    }

    // ---- promise 13: of

    @Sentence(promise = 13, says = "UNKNOWN; OUTSIDE.")
    static void ofNoSuchTest() {
        NoticeTests none = new NoticeTests();
        NoticeTests some = sumWithTests();
        NoticeTests full = withFullTests();
        for (int what = 0; what < 4; what++) {
            due("there are none", none.of(0, what), UNKNOWN);
            due("there are 4", some.of(4, what), UNKNOWN);
            due("there are 14", full.of(14, what), UNKNOWN);
            due("of(-1, " + what + ")", full.of(-1, what), UNKNOWN);
            due("far below", full.of(Integer.MIN_VALUE, what), UNKNOWN);
            due("far above", full.of(Integer.MAX_VALUE, what), UNKNOWN);
        }
        due("the last of 14", full.of(13, 0), 498);
    }

    @Sentence(promise = 13, says = "UNKNOWN; OUTSIDE.")
    static void ofAskedForNothingTold() {
        NoticeTests x = sumWithTests();
        for (int what : new int[] {-1, 4, Integer.MIN_VALUE, Integer.MAX_VALUE}) {
            due("of(0, " + what + ")", x.of(0, what), OUTSIDE);
            due("of(3, " + what + ")", x.of(3, what), OUTSIDE);
            due("UNKNOWN is ahead of OUTSIDE", x.of(4, what), UNKNOWN);
            due("UNKNOWN is ahead of OUTSIDE", x.of(-1, what), UNKNOWN);
        }
    }

    @Sentence(promise = 13, says = "2 whether it FAILS (1, 0)")
    static void failsForEveryOtherDue() {
        NoticeTests x = of("+ab", "0");
        for (int due = 0; due < 8; due++) {
            x.test(inputs(7, 1, 0), due);
            due("DUE is " + due, x.of(due, 2), due == 0 ? 0 : 1);
        }
    }

    @Sentence(promise = 13, says = "3 how many CHANGES it notices")
    static void oneNoticesNoneOneNoticesAll() {
        NoticeTests x = of("+ab", "0");
        addTests(x, 0, 0, inputs(3, 1, 2));
        due("none", x.of(0, 3), 0);
        due("all", x.of(1, 3), 8);
        NoticeTests silent = of("**00*00", "0");
        silent.test(511, 0);
        due("all are SILENT", silent.of(0, 3), 0);
    }

    // ---- promise 14: many

    @Sentence(promise = 14, says = "OUTSIDE.")
    static void manyOfNothingTold() {
        NoticeTests x = sumWithTests();
        for (int what : new int[] {-1, 4, Integer.MIN_VALUE, Integer.MAX_VALUE}) {
            due("many(" + what + ")", x.many(what), OUTSIDE);
        }
    }

    @Sentence(promise = 14, says = "SILENT is a CHANGE by which no RESULT is another one.")
    static void allAreSilent() {
        NoticeTests x = of("**00*00", "0");
        manyAre(x, 20, 0, 0, 0);
        addTests(x, 0, 0, 511);
        manyAre(x, 20, 0, 0, 0);
    }

    @Sentence(promise = 14, says = "SILENT is a CHANGE by which no RESULT is another one.")
    static void anotherResultForOneInputsIsNotSilent() {
        NoticeTests x = of("=a0=b0=c00000", "0");
        due("1 instead of 0, for INPUTS 0 alone", x.change(18, 2), 1);
        // Not SILENT are the two CHANGES of each of the four NUMBERS at the end.
        manyAre(x, 18, 0, 8, 0);
    }

    @Sentence(promise = 14, says = "NOTICED: by some TEST.")
    static void withoutTestsNoneIsNoticed() {
        manyAre(new NoticeTests(), 0, 0, 2, 0);
        manyAre(of("maa", "0"), 1, 0, 7, 0);
    }

    @Sentence(promise = 14, says = "HIDDEN: neither SILENT nor NOTICED.")
    static void noneIsHiddenWhereAllAreNoticed() {
        NoticeTests x = of("+ab", "0");
        x.test(inputs(3, 1, 2), 4);
        manyAre(x, 0, 8, 0, 8);
        NoticeTests same = of("maa", "0");
        same.test(inputs(3, 0, 0), 3);
        due("one is SILENT", same.many(0), 1);
        due("all others are NOTICED", same.many(1), 7);
        due("none is HIDDEN", same.many(2), 0);
    }

    @Sentence(promise = 14, says = "FRONT: NOTICED ones that are BEHIND none.")
    static void allOfOneTestAreFront() {
        NoticeTests x = of("a", "0");
        manyAre(x, 0, 0, 2, 0);
        x.test(inputs(1, 0, 1), 1);
        manyAre(x, 0, 1, 1, 1);
        x.test(inputs(1, 0, 0), 1);
        manyAre(x, 0, 2, 0, 1);
        x.drop(0);
        manyAre(x, 0, 2, 0, 2);
    }

    // ---- promise 15: score

    @Sentence(promise = 15, says = "OUTSIDE: part.")
    static void scoreOfNoSuchPart() {
        NoticeTests x = sumWithTests();
        for (int part : new int[] {-1, 2, Integer.MIN_VALUE, Integer.MAX_VALUE}) {
            due("score(" + part + ")", x.score(part), OUTSIDE);
        }
    }

    @Sentence(promise = 15, says = "(0 by 1 for none)")
    static void scoreWhereAllAreSilent() {
        NoticeTests x = of("**00*00", "0");
        scoreIs(x, 0, 1);
        x.test(511, 0);
        scoreIs(x, 0, 1);
    }

    @Sentence(promise = 15, says = "(0 by 1 for none)")
    static void scoreWhereNoneIsNoticed() {
        NoticeTests x = of("+ab", "0");
        scoreIs(x, 0, 1);
        x.test(0, 0);
        scoreIs(x, 0, 1);
        scoreIs(new NoticeTests(), 0, 1);
    }

    @Sentence(promise = 15, says = "in lowest terms")
    static void scoreInLowestTerms() {
        NoticeTests x = of("+ab", "0");
        x.test(inputs(1, 1, 1), 2);
        due("NOTICED", x.many(1), 4);
        scoreIs(x, 1, 2);
        x.drop(0);
        x.test(inputs(0, 1, 0), 1);
        due("NOTICED", x.many(1), 6);
        scoreIs(x, 3, 4);
        x.test(inputs(1, 1, 1), 2);
        due("NOTICED", x.many(1), 7);
        scoreIs(x, 7, 8);
    }

    @Sentence(promise = 15, says = "NOTICED ones by those that are not SILENT")
    static void scoreOfAllIsOneByOne() {
        NoticeTests x = of("+ab", "0");
        x.test(inputs(3, 1, 2), 4);
        scoreIs(x, 1, 1);
        NoticeTests same = of("maa", "0");
        same.test(inputs(3, 0, 0), 3);
        scoreIs(same, 1, 1);
    }
}

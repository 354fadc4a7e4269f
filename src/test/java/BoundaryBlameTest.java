/** Promises 19 to 21: each sentence of the document that names a boundary case has a test of its own. */
public final class BoundaryBlameTest extends Boundaries {
    private static final int[] ASKED_OF_MEND = {-3, -2, -1, 0, 1, 1000, Integer.MIN_VALUE, Integer.MAX_VALUE};

    public static void main(String[] args) throws IllegalAccessException {
        runAll(BoundaryBlameTest.class);
    }

    /** NODES: 0 <, 1 a, 2 the 3, 3 b (for a below 3), 4 c (for others). */
    private static NoticeTests choice() {
        return of("<a3bc", "0");
    }

    // ---- promise 19: blame

    @Sentence(promise = 19, says = "BLAME of a NODE of TEXT 0. UNKNOWN; OUTSIDE.")
    static void blameOfNoSuchNode() {
        NoticeTests x = of("<a3bc", "+a+b+c+ab");
        for (int node : new int[] {-1, 5, 23, 24, Integer.MIN_VALUE, Integer.MAX_VALUE}) {
            due("blame(" + node + ", 0)", x.blame(node, 0), UNKNOWN);
            due("blame(" + node + ", 1)", x.blame(node, 1), UNKNOWN);
        }
        due("there is one in TEXT 1 alone", x.blame(8, 0), UNKNOWN);
        due("the last one", x.blame(4, 1), 1);
        lay(x, "c");
        x.read(0);
        due("it was there before", x.blame(4, 1), UNKNOWN);
        due("the last one now", x.blame(0, 1), 1);
    }

    @Sentence(promise = 19, says = "BLAME of a NODE of TEXT 0. UNKNOWN; OUTSIDE.")
    static void blameOfNoSuchPart() {
        NoticeTests x = choice();
        for (int part : new int[] {-1, 2, Integer.MIN_VALUE, Integer.MAX_VALUE}) {
            due("blame(0, " + part + ")", x.blame(0, part), OUTSIDE);
            due("blame(4, " + part + ")", x.blame(4, part), OUTSIDE);
            due("UNKNOWN is ahead of OUTSIDE", x.blame(5, part), UNKNOWN);
            due("UNKNOWN is ahead of OUTSIDE", x.blame(-1, part), UNKNOWN);
        }
    }

    @Sentence(promise = 19, says = "0 by 1 without failing ones")
    static void blameWithoutTests() {
        blamesAre(choice(), 0, 1, 0, 1, 0, 1, 0, 1, 0, 1);
        blamesAre(new NoticeTests(), 0, 1);
    }

    @Sentence(promise = 19, says = "0 by 1 without failing ones")
    static void blameWhereNoneFails() {
        NoticeTests x = choice();
        x.test(inputs(0, 1, 2), 1);
        blamesAre(x, 0, 1, 0, 1, 0, 1, 0, 1, 0, 1);
        x.test(inputs(3, 1, 2), 2);
        blamesAre(x, 0, 1, 0, 1, 0, 1, 0, 1, 0, 1);
    }

    @Sentence(promise = 19, says = "where P is 0: f by F")
    static void blameWhereAllFail() {
        NoticeTests x = choice();
        x.test(inputs(0, 1, 2), 7);
        blamesAre(x, 1, 1, 1, 1, 1, 1, 1, 1, 0, 1);
        x.test(inputs(3, 1, 2), 7);
        x.test(inputs(4, 1, 2), 7);
        blamesAre(x, 1, 1, 1, 1, 1, 1, 1, 3, 2, 3);
    }

    @Sentence(promise = 19, says = "where P is 0: f by F")
    static void blameWhereAll14Fail() {
        NoticeTests x = choice();
        addTests(x, 7, 8, 8, 8, 8, 8, 8, 8, 8, 8, 8, 8, 8);
        addTests(x, 7, inputs(3, 0, 0), inputs(7, 0, 0));
        due("told(4)", x.told(4), 14);
        blamesAre(x, 1, 1, 1, 1, 1, 1, 6, 7, 1, 7);
    }

    @Sentence(promise = 19, says = "with f of F failing TESTS, and p of P others that RUN it")
    static void blameWhereAllButOneFail() {
        NoticeTests x = choice();
        addTests(x, 7, 8, 8, 8, 8, 8, 8, 8, 8, 8, 8, 8, 8, 8);
        x.test(inputs(1, 2, 3), 2);
        // F is 13, P is 1; NODE 3 is RUN by all, NODE 4 by none.
        blamesAre(x, 1, 2, 1, 2, 1, 2, 1, 2, 0, 1);
        x.drop(13);
        x.test(inputs(3, 2, 3), 3);
        blamesAre(x, 1, 2, 1, 2, 1, 2, 1, 1, 0, 1);
    }

    @Sentence(promise = 19, says = "with f of F failing TESTS, and p of P others that RUN it")
    static void blameWhereOneOf14Fails() {
        NoticeTests x = choice();
        addTests(x, 1, 8, 8, 8, 8, 8, 8, 8, 8, 8, 8, 8, 8, 8);
        x.test(8, 0);
        // F is 1, P is 13: 13 by (13 and 13).
        blamesAre(x, 1, 2, 1, 2, 1, 2, 1, 2, 0, 1);
        x.drop(0);
        x.test(inputs(5, 0, 1), 1);
        // NODE 3: 13 by (13 and 12); NODE 4: 0 by (0 and 1).
        blamesAre(x, 1, 2, 1, 2, 1, 2, 13, 25, 0, 1);
    }

    @Sentence(promise = 19, says = "(0 by 1 for none)")
    static void blameOfANodeThatNoFailingTestRuns() {
        NoticeTests x = choice();
        x.test(inputs(0, 1, 2), 7);
        x.test(inputs(3, 1, 2), 2);
        x.test(inputs(4, 1, 2), 2);
        due("0 by (0 and 2)", x.blame(4, 0), 0);
        due("0 by (0 and 2)", x.blame(4, 1), 1);
    }

    @Sentence(promise = 19, says = "(0 by 1 for none)")
    static void blameOfANodeThatNoTestRuns() {
        NoticeTests x = choice();
        x.test(inputs(0, 1, 2), 7);
        x.test(inputs(1, 1, 2), 1);
        due("0 by (0 and 0)", x.blame(4, 0), 0);
        due("0 by (0 and 0)", x.blame(4, 1), 1);
    }

    @Sentence(promise = 19, says = "in lowest terms")
    static void blameInLowestTerms() {
        NoticeTests x = choice();
        addTests(x, 7, inputs(0, 1, 0), inputs(0, 1, 0));
        addTests(x, 1, inputs(0, 1, 0), inputs(3, 0, 1), inputs(3, 0, 1), inputs(3, 0, 1));
        // F is 2, P is 4: NODE 3 has 8 by (8 and 2), NODE 0 has 8 by (8 and 8).
        blamesAre(x, 1, 2, 1, 2, 1, 2, 4, 5, 0, 1);
    }

    // ---- promise 20: rank

    @Sentence(promise = 20, says = "the i-th NODE; NONE.")
    static void rankOutsideOfTheNodes() {
        NoticeTests x = of("<a3bc", "+a+b+c+ab");
        for (int i : new int[] {-1, -2, 5, 8, 23, 24, Integer.MIN_VALUE, Integer.MAX_VALUE}) {
            due("rank(" + i + ")", x.rank(i), NONE);
        }
        due("the last", x.rank(4), 4);
        lay(x, "c");
        x.read(0);
        due("the only one", x.rank(0), 0);
        due("it was there before", x.rank(1), NONE);
    }

    @Sentence(promise = 20, says = "the greatest first, then numbers")
    static void ranksByNumbersWhereAllAreLike() {
        ranksAre(new NoticeTests(), 0);
        NoticeTests x = choice();
        ranksAre(x, 0, 1, 2, 3, 4);
        x.test(inputs(0, 1, 2), 1);
        ranksAre(x, 0, 1, 2, 3, 4);
        NoticeTests largest = of(sumOf(11), "0");
        largest.test(inputs(1, 0, 0), 5);
        for (int i = 0; i < 23; i++) {
            due("rank(" + i + ")", largest.rank(i), i);
        }
        due("rank(23)", largest.rank(23), NONE);
    }

    @Sentence(promise = 20, says = "the greatest first, then numbers")
    static void theLastNodeHasTheGreatestBlame() {
        NoticeTests x = choice();
        x.test(inputs(0, 1, 2), 1);
        x.test(inputs(3, 1, 2), 7);
        ranksAre(x, 4, 0, 1, 2, 3);
    }

    @Sentence(promise = 20, says = "the greatest first, then numbers")
    static void ranksAreByFractionsNotByUpperNumbers() {
        NoticeTests x = choice();
        addTests(x, 7, inputs(0, 1, 0), inputs(3, 0, 1));
        addTests(x, 1, inputs(0, 1, 0), inputs(0, 1, 0), inputs(0, 1, 0), inputs(3, 0, 1));
        // F is 2, P is 4: NODE 0 has 8 by 16, NODE 3 has 4 by 10, NODE 4 has 4 by 6.
        blamesAre(x, 1, 2, 1, 2, 1, 2, 2, 5, 2, 3);
        ranksAre(x, 4, 0, 1, 2, 3);
    }

    @Sentence(promise = 20, says = "the greatest first, then numbers")
    static void aNodeThatNoTestRunsComesLast() {
        NoticeTests x = choice();
        x.test(inputs(3, 1, 2), 7);
        x.test(inputs(4, 1, 2), 2);
        // NODE 3 is RUN by none: 0 by (0 and 0).
        ranksAre(x, 0, 1, 2, 4, 3);
    }

    // ---- promise 21: mend

    @Sentence(promise = 21, says = "STATE: no TEST FAILS.")
    static void mendWithoutTests() {
        NoticeTests x = choice();
        for (int i : ASKED_OF_MEND) {
            due("mend(" + i + ")", x.mend(i), STATE);
            due("of a new object", new NoticeTests().mend(i), STATE);
        }
    }

    @Sentence(promise = 21, says = "STATE: no TEST FAILS.")
    static void mendWhereNoneFails() {
        NoticeTests x = choice();
        x.test(inputs(3, 1, 2), 2);
        for (int i : ASKED_OF_MEND) {
            due("mend(" + i + ")", x.mend(i), STATE);
        }
        x.test(inputs(3, 1, 2), 1);
        due("one FAILS", x.mend(-1), 0);
        x.drop(1);
        due("it has gone", x.mend(-1), STATE);
        lay(x, "b");
        x.read(0);
        due("one FAILS for another TEXT", x.mend(-1), 1);
    }

    @Sentence(promise = 21, says = "the i-th CHANGE; NONE")
    static void noMendAtAll() {
        NoticeTests x = of("**00*00", "0");
        x.test(0, 1);
        mendsAre(x, 0);
        NoticeTests torn = of("a", "0");
        torn.test(inputs(1, 2, 3), 2);
        torn.test(inputs(1, 2, 3), 3);
        mendsAre(torn, 0);
    }

    @Sentence(promise = 21, says = "the i-th CHANGE; NONE")
    static void mendOutsideOfTheMends() {
        NoticeTests x = of("a", "0");
        x.test(inputs(1, 2, 2), 2);
        mendsAre(x, 2, 0, 1);
        for (int i : new int[] {-3, -4, 2, 1000, Integer.MIN_VALUE, Integer.MAX_VALUE}) {
            due("mend(" + i + ")", x.mend(i), NONE);
        }
    }

    @Sentence(promise = 21, says = "a CHANGE by which no TEST FAILS")
    static void theOnlyMendIsTheLastChange() {
        NoticeTests x = of("+ab", "0");
        x.test(inputs(1, 5, 2), 3);
        mendsAre(x, 1, 7);
        NoticeTests first = of("-ab", "0");
        first.test(inputs(1, 5, 2), 6);
        mendsAre(first, 1, 0);
    }

    @Sentence(promise = 21, says = "a CHANGE by which no TEST FAILS")
    static void aMendLetsNoneOf14Fail() {
        NoticeTests x = of("a", "0");
        for (int i = 0; i < 13; i++) {
            x.test(inputs(1, 2, 2), 2);
        }
        mendsAre(x, 2, 0, 1);
        x.test(inputs(5, 5, 2), 5);
        due("the last one does not FAIL", x.of(13, 2), 0);
        mendsAre(x, 1, 0);
    }

    @Sentence(promise = 21, says = "unlike: some RESULT is another one")
    static void kindsOfMendsThatAreLike() {
        NoticeTests x = of("+00", "0");
        x.test(0, 1);
        mendsAre(x, 1, 4, 6);
    }

    @Sentence(promise = 21, says = "unlike: some RESULT is another one")
    static void kindsOfMendsUnlikeForOneInputsAlone() {
        NoticeTests x = of("MM-b1ca", "0");
        x.test(inputs(6, 7, 1), 7);
        x.test(inputs(6, 0, 1), 6);
        x.test(inputs(0, 7, 0), 7);
        // b * 1 and b - 0 are like; the greater one of b and 1 is unlike them for INPUTS 0 alone.
        for (int inputs = 1; inputs < 100; inputs++) {
            due("by both for " + inputs, x.by(9, inputs), x.by(11, inputs));
        }
        due("b * 1", x.by(9, 0), 0);
        due("the greater one of b and 1", x.by(11, 0), 1);
        mendsAre(x, 2, 9, 11, 15);
    }
}

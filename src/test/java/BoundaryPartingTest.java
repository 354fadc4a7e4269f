/** Promises 22 to 24: each sentence of the document that names a boundary case has a test of its own. */
public final class BoundaryPartingTest extends Boundaries {
    public static void main(String[] args) throws IllegalAccessException {
        runAll(BoundaryPartingTest.class);
    }

    // ---- promise 22: parts

    @Sentence(promise = 22, says = "LEAST (1; NONE). OUTSIDE.")
    static void partsOfNothingTold() {
        NoticeTests x = of("a", "b");
        for (int what : new int[] {-1, 2, Integer.MIN_VALUE, Integer.MAX_VALUE}) {
            due("parts(" + what + ")", x.parts(what), OUTSIDE);
            due("where they never part", new NoticeTests().parts(what), OUTSIDE);
        }
    }

    @Sentence(promise = 22, says = "LEAST (1; NONE). OUTSIDE.")
    static void theyNeverPart() {
        partsAre(new NoticeTests(), 0, NONE);
        partsAre(of("+ab", "+ba"), 0, NONE);
        partsAre(of(sumOf(11), sumOf(11)), 0, NONE);
    }

    @Sentence(promise = 22, says = "INPUTS for which TEXTS 0 and 1 have unlike RESULTS: how many")
    static void theyPartForAllInputs() {
        partsAre(of("0", "1"), 512, 0);
        partsAre(of("+a1", "a"), 512, 0);
    }

    @Sentence(promise = 22, says = "INPUTS for which TEXTS 0 and 1 have unlike RESULTS: how many")
    static void theyPartForOneInputsAlone() {
        partsAre(of("=a7=b7=c71000", "0"), 1, 511);
        partsAre(of("0", "=a0=b0=c01000"), 1, 0);
    }

    @Sentence(promise = 22, says = "(by a, b, c together, then as numbers)")
    static void leastIsByAllTogetherFirst() {
        // At c = 7 (INPUTS 7 are the first) and at a = 6, b = 0, c = 0.
        NoticeTests x = of("=c71=a6=b0=c01000", "0");
        partsAre(x, 65, inputs(6, 0, 0));
    }

    @Sentence(promise = 22, says = "(by a, b, c together, then as numbers)")
    static void leastOfSeveralIsTheFirstAsNumbers() {
        partsAre(of("+a+bc", "0"), 448, 1);
        partsAre(of("a", "b"), 448, inputs(0, 1, 0));
        // Together they are 7 at least: 7 alone is the first.
        partsAre(of("=7+a+bc10", "0"), 64, inputs(0, 0, 7));
    }

    // ---- promise 23: less

    @Sentence(promise = 23, says = "OUTSIDE; STATE: they do not part there.")
    static void lessFromInputsTooSmallOrTooLarge() {
        NoticeTests x = of("0", "1");
        for (int inputs : new int[] {-1, -8, -64, 512, 1024, Integer.MIN_VALUE, Integer.MAX_VALUE}) {
            due("less(" + inputs + ", 0)", x.less(inputs, 0), OUTSIDE);
            due("less(" + inputs + ", 1)", x.less(inputs, 1), OUTSIDE);
        }
        lessIs(x, 0, 0, 0);
        lessIs(x, 511, 0, 3);
    }

    @Sentence(promise = 23, says = "OUTSIDE; STATE: they do not part there.")
    static void lessOfNothingTold() {
        NoticeTests x = of("0", "1");
        for (int what : new int[] {-1, 2, Integer.MIN_VALUE, Integer.MAX_VALUE}) {
            due("less(0, " + what + ")", x.less(0, what), OUTSIDE);
            due("less(511, " + what + ")", x.less(511, what), OUTSIDE);
        }
    }

    @Sentence(promise = 23, says = "STATE: they do not part there")
    static void lessWhereTheyDoNotPart() {
        NoticeTests never = of("+ab", "+ba");
        for (int inputs = 0; inputs < 512; inputs += 73) {
            due("they never part", never.less(inputs, 0), STATE);
            due("they never part", never.less(inputs, 1), STATE);
        }
        NoticeTests x = of("a", "b");
        due("less(0, 0)", x.less(0, 0), STATE);
        due("less(511, 1)", x.less(511, 1), STATE);
        lessIs(x, 8, 8, 0);
    }

    @Sentence(promise = 23, says = "the first of these that fits")
    static void outsideIsAheadOfState() {
        NoticeTests x = new NoticeTests();
        due("less(512, 0)", x.less(512, 0), OUTSIDE);
        due("less(-1, 0)", x.less(-1, 0), OUTSIDE);
        due("less(0, 2)", x.less(0, 2), OUTSIDE);
        due("less(0, -1)", x.less(0, -1), OUTSIDE);
        due("less(0, 0)", x.less(0, 0), STATE);
    }

    @Sentence(promise = 23, says = "(such as change it)")
    static void stepsThatChangeNothingAreNone() {
        NoticeTests x = of("0", "1");
        lessIs(x, 0, 0, 0);
        lessIs(x, inputs(0, 0, 7), 0, 1);
        lessIs(x, inputs(0, 7, 0), 0, 1);
        lessIs(x, inputs(7, 0, 0), 0, 1);
        lessIs(x, inputs(7, 0, 7), 0, 2);
    }

    @Sentence(promise = 23, says = "till none does")
    static void noStepFromTheOnlyInputsAtWhichTheyPart() {
        lessIs(of("=a7=b7=c71000", "0"), 511, 511, 0);
        lessIs(of("=a0=b0=c01000", "0"), 0, 0, 0);
        lessIs(of("=a1=b1=c11000", "0"), inputs(1, 1, 1), inputs(1, 1, 1), 0);
    }

    @Sentence(promise = 23, says = "c 0, b 0, a 0")
    static void cGoesTo0First() {
        // They do not part where all are 0: c and b go first, then a is halved.
        NoticeTests x = of("+a+bc", "0");
        lessIs(x, inputs(4, 2, 1), inputs(1, 0, 0), 4);
        // None of the first three steps: c and b are 0, a must not be.
        lessIs(x, inputs(4, 0, 0), inputs(1, 0, 0), 2);
        // They do not part where b and c are 0: c and a go first, then b is halved.
        lessIs(of("=b0=c0011", "0"), inputs(7, 4, 7), inputs(0, 1, 0), 4);
    }

    @Sentence(promise = 23, says = "c half of it (cut), b half, a half")
    static void halvesAreCut() {
        // Each parts for the number that is told and above: 7 half is 3, 5 half is 2, 3 half is 1.
        for (int digit = 0; digit < 3; digit++) {
            String input = "cba".substring(digit, digit + 1);
            int unit = new int[] {1, 8, 64}[digit];
            NoticeTests one = of(">" + input + "010", "0");
            lessIs(one, 7 * unit, unit, 2);
            lessIs(one, 3 * unit, unit, 1);
            lessIs(one, 2 * unit, unit, 1);
            lessIs(one, unit, unit, 0);
            NoticeTests two = of(">" + input + "110", "0");
            lessIs(two, 5 * unit, 2 * unit, 1);
            lessIs(two, 7 * unit, 2 * unit, 2);
            lessIs(two, 6 * unit, 2 * unit, 2);
        }
    }

    @Sentence(promise = 23, says = "c 1 less, b 1 less, a 1 less")
    static void oneLessIsTheLastStep() {
        for (int digit = 0; digit < 3; digit++) {
            String input = "cba".substring(digit, digit + 1);
            int unit = new int[] {1, 8, 64}[digit];
            NoticeTests x = of(">" + input + "410", "0");
            lessIs(x, 7 * unit, 5 * unit, 2);
            lessIs(x, 5 * unit, 5 * unit, 0);
            NoticeTests last = of("=" + input + "710", "0");
            lessIs(last, 511, 7 * unit, 2);
            // For 6 and 7 alone: one step by 1.
            NoticeTests two = of(">" + input + "510", "0");
            lessIs(two, 7 * unit, 6 * unit, 1);
        }
    }

    @Sentence(promise = 23, says = "c 1 less, b 1 less, a 1 less")
    static void oneLessThan0IsNoStep() {
        // They part at 0 1 c for c 0 and at 0 0 7, the number just below it: c does not borrow of b.
        lessIs(of("=b1=c010=b0=c7100", "0"), inputs(0, 1, 0), inputs(0, 1, 0), 0);
        // So it is with b and a.
        lessIs(of("=a1=b010=a0=b7100", "0"), inputs(1, 0, 0), inputs(1, 0, 0), 0);
        // They part at 0 alone and at those with a 7: nothing is below 0.
        lessIs(of("=a0=b0=c0100=a710", "0"), 0, 0, 0);
    }

    @Sentence(promise = 23, says = "again and again, till none does")
    static void manySteps() {
        // They part where b less c is 0 or 1 (left over by 8): down by turns, c then b.
        NoticeTests x = of("=-bc01=-bc110", "0");
        lessIs(x, inputs(0, 6, 6), 0, 12);
        lessIs(x, inputs(7, 6, 6), 0, 13);
    }

    // ---- promise 24: told

    @Sentence(promise = 24, says = "4 TESTS that FAIL. OUTSIDE.")
    static void toldOfNothingTold() {
        NoticeTests x = sumWithTests();
        for (int what : new int[] {-1, 5, Integer.MIN_VALUE, Integer.MAX_VALUE}) {
            due("told(" + what + ")", x.told(what), OUTSIDE);
        }
    }

    @Sentence(promise = 24, says = "0 signs, 1 NODES of TEXT 0, 2 of TEXT 1, 3 TESTS, 4 TESTS that FAIL")
    static void toldOfANewObject() {
        toldIs(new NoticeTests(), 0, 1, 1, 0, 0);
    }

    @Sentence(promise = 24, says = "0 signs, 1 NODES of TEXT 0, 2 of TEXT 1, 3 TESTS, 4 TESTS that FAIL")
    static void toldWhereAllIsFull() {
        NoticeTests x = of(sumOf(11), sumOf(10));
        lay(x, "a".repeat(40));
        x.say('a');
        for (int i = 0; i < 15; i++) {
            x.test(0, 1);
        }
        toldIs(x, 40, 23, 21, 14, 14);
        x.wipe();
        x.drop(13);
        x.test(0, 0);
        toldIs(x, 0, 23, 21, 14, 13);
    }

    private static void toldIs(NoticeTests x, int... want) {
        for (int what = 0; what < want.length; what++) {
            due("told(" + what + ")", x.told(what), want[what]);
        }
    }
}

/** Promises 16 to 18: each sentence of the document that names a boundary case has a test of its own. */
public final class BoundaryFewerTest extends Boundaries {
    /** Of these each notices a CHANGE that no other one does. */
    private static final String NEEDS_14 = "=*-m-<-+M4b531b7b53c5b5";
    private static final int[] ALL_NEEDED = {43, 245, 414, 312, 470, 481, 81, 325, 51, 219, 65, 114, 483, 409};

    public static void main(String[] args) throws IllegalAccessException {
        runAll(BoundaryFewerTest.class);
    }

    // ---- promise 16: fewest

    @Sentence(promise = 16, says = "how many (1). OUTSIDE.")
    static void fewestOfNothingTold() {
        NoticeTests x = sumWithTests();
        for (int what : new int[] {-1, 2, Integer.MIN_VALUE, Integer.MAX_VALUE}) {
            due("fewest(" + what + ")", x.fewest(what), OUTSIDE);
            due("without TESTS", new NoticeTests().fewest(what), OUTSIDE);
        }
    }

    @Sentence(promise = 16, says = "the least number of TESTS by which all is NOTICED that all TESTS notice")
    static void fewestWithoutTests() {
        fewestIs(new NoticeTests(), 0, 0);
        fewestIs(of("+ab", "0"), 0, 0);
    }

    @Sentence(promise = 16, says = "the least number of TESTS by which all is NOTICED that all TESTS notice")
    static void fewestWhereNoneIsNoticed() {
        NoticeTests x = of("+ab", "0");
        addTests(x, 0, 0, 0, 0);
        fewestIs(x, 0, 0);
        NoticeTests silent = of("**00*00", "0");
        addTests(silent, 0, 0, 511);
        fewestIs(silent, 0, 0);
    }

    @Sentence(promise = 16, says = "the least number of TESTS by which all is NOTICED that all TESTS notice")
    static void fewestOfOneTest() {
        NoticeTests x = of("a", "0");
        x.test(inputs(1, 0, 1), 1);
        fewestIs(x, 1, 1);
        x.drop(0);
        fewestIs(x, 0, 0);
    }

    @Sentence(promise = 16, says = "the least number of TESTS by which all is NOTICED that all TESTS notice")
    static void all14AreNeeded() {
        NoticeTests x = of(NEEDS_14, "0");
        addTests(x, 0, ALL_NEEDED);
        due("told(3)", x.told(3), 14);
        fewestIs(x, 16383, 14);
        x.drop(13);
        fewestIs(x, 8191, 13);
    }

    @Sentence(promise = 16, says = "the least number of TESTS by which all is NOTICED that all TESTS notice")
    static void theLastOf14NoticesAll() {
        NoticeTests x = of("+ab", "0");
        for (int i = 0; i < 13; i++) {
            x.test(i % 2 == 0 ? inputs(1, 0, 0) : inputs(0, 1, 0), 1);
        }
        // Without it both kinds are needed: 1 0 0 notices c + b, 0 1 0 notices a + c.
        fewestIs(x, 3, 2);
        x.test(inputs(3, 1, 2), 4);
        fewestIs(x, 8192, 1);
    }

    @Sentence(promise = 16, says = "of several sets the least as bits")
    static void leastAsBitsIsNotTheFirstByNumbers() {
        // The four NUMBERS at the end of the RELS alone count: noticed by 0 1, 2 3, 0 2, 1 3.
        NoticeTests x = of("+<a400<b400", "0");
        addTests(x, 0, inputs(3, 3, 0), inputs(3, 4, 0), inputs(4, 3, 0), inputs(4, 4, 0));
        due("TESTS 1 and 2, not 0 and 3", x.fewest(0), 6);
        due("fewest(1)", x.fewest(1), 2);
    }

    @Sentence(promise = 16, says = "of several sets the least as bits")
    static void of14LikeTestsTheFirst() {
        NoticeTests x = of("a", "0");
        for (int i = 0; i < 14; i++) {
            x.test(inputs(1, 0, 0), 1);
        }
        fewestIs(x, 1, 1);
        x.drop(0);
        fewestIs(x, 1, 1);
    }

    // ---- promise 17: soon

    @Sentence(promise = 17, says = "the i-th TEST; NONE.")
    static void soonWithoutTests() {
        NoticeTests x = of("+ab", "0");
        due("the sum", x.soon(-1), 0);
        due("the first", x.soon(0), NONE);
        due("soon(13)", x.soon(13), NONE);
    }

    @Sentence(promise = 17, says = "the i-th TEST; NONE.")
    static void soonAfterTheLast() {
        NoticeTests x = sumWithTests();
        due("the last", x.soon(3), 0);
        for (int i : new int[] {4, 13, 14, Integer.MAX_VALUE}) {
            due("soon(" + i + ")", x.soon(i), NONE);
        }
        x.drop(0);
        due("it was there before", x.soon(3), NONE);
    }

    @Sentence(promise = 17, says = "the i-th TEST; NONE.")
    static void soonBelowMinusOne() {
        NoticeTests x = sumWithTests();
        for (int i : new int[] {-2, -3, -1000, Integer.MIN_VALUE}) {
            due("soon(" + i + ")", x.soon(i), NONE);
        }
    }

    @Sentence(promise = 17, says = "the sum over NOTICED CHANGES")
    static void soonWhereNoneIsNoticed() {
        NoticeTests x = of("+ab", "0");
        addTests(x, 0, 0, 0, 0);
        soonIs(x, 0, 0, 1, 2);
    }

    @Sentence(promise = 17, says = "the place (from 0 on) of the first TEST that notices it")
    static void soonOfOneTest() {
        NoticeTests x = of("a", "0");
        x.test(inputs(1, 0, 0), 1);
        soonIs(x, 0, 0);
    }

    @Sentence(promise = 17, says = "the place (from 0 on) of the first TEST that notices it")
    static void theLastOf14GoesFirst() {
        NoticeTests x = of("a", "0");
        addTests(x, 0, 0, 0, 0, 0, 0, 0, 0, 0, 0, 0, 0, 0, 0);
        x.test(inputs(1, 0, 0), 1);
        soonIs(x, 0, 13, 0, 1, 2, 3, 4, 5, 6, 7, 8, 9, 10, 11, 12);
    }

    @Sentence(promise = 17, says = "of several the first by numbers")
    static void likeOnesGoByNumbers() {
        NoticeTests x = of("a", "0");
        for (int i = 0; i < 14; i++) {
            x.test(inputs(1, 0, 0), 1);
        }
        soonIs(x, 0, 0, 1, 2, 3, 4, 5, 6, 7, 8, 9, 10, 11, 12, 13);
    }

    @Sentence(promise = 17, says = "of several the first by numbers")
    static void ofTwoBestOnesTheFirstGoesFirst() {
        NoticeTests x = of("a", "0");
        addTests(x, 0, 0, inputs(1, 0, 1), inputs(1, 1, 0));
        soonIs(x, 1, 1, 2, 0);
        x.drop(1);
        x.test(inputs(1, 0, 1), 0);
        soonIs(x, 1, 1, 2, 0);
    }

    // ---- promise 18: wished

    @Sentence(promise = 18, says = "how many HIDDEN ones they would notice (1). OUTSIDE.")
    static void wishedOfNothingTold() {
        NoticeTests x = sumWithTests();
        for (int what : new int[] {-1, 2, Integer.MIN_VALUE, Integer.MAX_VALUE}) {
            due("wished(" + what + ")", x.wished(what), OUTSIDE);
            due("where some are HIDDEN", new NoticeTests().wished(what), OUTSIDE);
        }
    }

    @Sentence(promise = 18, says = "NONE: there are no HIDDEN ones")
    static void noneIsWishedWhereAllAreSilent() {
        wishedIs(of("**00*00", "0"), NONE, 0);
    }

    @Sentence(promise = 18, says = "NONE: there are no HIDDEN ones")
    static void noneIsWishedWhereAllAreNoticed() {
        NoticeTests x = of("+ab", "0");
        x.test(inputs(3, 1, 2), 4);
        wishedIs(x, NONE, 0);
        x.drop(0);
        due("all are HIDDEN again", x.wished(1), 8);
    }

    @Sentence(promise = 18, says = "the INPUTS that would notice most HIDDEN ones, the first such")
    static void theLastInputsAloneAreWished() {
        NoticeTests x = of("=a7=b7=c70000", "0");
        addTests(x, 0, inputs(7, 7, 0), inputs(7, 0, 0), inputs(0, 0, 0));
        due("HIDDEN ones", x.many(2), 2);
        wishedIs(x, 511, 2);
        x.test(511, 0);
        wishedIs(x, NONE, 0);
    }

    @Sentence(promise = 18, says = "the INPUTS that would notice most HIDDEN ones, the first such")
    static void ofSeveralTheFirstIsWished() {
        wishedIs(new NoticeTests(), 0, 2);
        // INPUTS 1 notice one of both, 9 are the first that notice both.
        NoticeTests x = of("a", "0");
        wishedIs(x, inputs(0, 1, 1), 2);
        x.test(inputs(1, 0, 1), 1);
        wishedIs(x, inputs(0, 0, 1), 1);
    }
}

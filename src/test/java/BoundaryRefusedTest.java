import java.util.function.Supplier;
import java.util.function.ToIntFunction;

/** Refused calls "change nothing", promise by promise; and how long an object is used. */
public final class BoundaryRefusedTest extends Boundaries {
    private static final String NOTHING = "They change nothing.";

    public static void main(String[] args) throws IllegalAccessException {
        runAll(BoundaryRefusedTest.class);
    }

    /** One of three TESTS FAILS; more must come on the PAD. */
    private static NoticeTests some() {
        NoticeTests x = of("<a3bc", "+ab");
        x.test(inputs(0, 1, 2), 1);
        x.test(inputs(3, 1, 2), 2);
        x.test(inputs(5, 1, 2), 7);
        lay(x, "+a");
        return x;
    }

    /** No room for a sign or a TEST; none FAILS. */
    private static NoticeTests full() {
        NoticeTests x = of(sumOf(11), sumOf(11));
        for (int i = 0; i < 14; i++) {
            x.test(inputs(i % 8, i % 3, i % 5), 12 * i % 8);
        }
        lay(x, "a".repeat(40));
        return x;
    }

    /** A TEXT with a NODE too many on the PAD. */
    private static NoticeTests tooLong() {
        NoticeTests x = some();
        lay(x, sumOf(12));
        return x;
    }

    /** All that can be told of an object, by some 250 calls at most; it is not used after that. */
    private static String allOf(NoticeTests x) {
        StringBuilder all = new StringBuilder();
        for (int what = 0; what < 5; what++) {
            all.append(x.told(what)).append(' ');
        }
        tellTexts(x, all);
        tellTests(x, all);
        tellFewer(x, all);
        // What lies on the PAD shows by what it becomes.
        all.append(" pad ").append(x.fault()).append(' ').append(x.say('b')).append(' ').append(x.read(1));
        for (int node = 0; node < 3; node++) {
            all.append(' ').append(x.node(1, node, 0));
        }
        return all.toString();
    }

    private static void tellTexts(NoticeTests x, StringBuilder all) {
        for (int text = 0; text < 2; text++) {
            all.append(" text ");
            for (int node = 0; x.node(text, node, 0) != UNKNOWN; node++) {
                all.append((char) x.node(text, node, 0));
            }
            for (int inputs = 0; inputs < 512; inputs += 170) {
                all.append(' ').append(x.result(text, inputs)).append(' ').append(x.runs(text, inputs));
            }
        }
        all.append(" parts ").append(x.parts(0)).append(' ').append(x.parts(1)).append(' ').append(x.less(256, 0));
    }

    private static void tellTests(NoticeTests x, StringBuilder all) {
        all.append(" tests");
        for (int test = 0; x.of(test, 0) != UNKNOWN; test++) {
            all.append(' ').append(x.of(test, 0)).append(' ').append(x.of(test, 1));
        }
        all.append(" changes");
        for (int i = 0; i < x.change(-1, 0) && i < 16; i++) {
            all.append(' ').append(x.change(i, 1)).append(' ').append(x.change(i, 4));
        }
    }

    private static void tellFewer(NoticeTests x, StringBuilder all) {
        all.append(" fewer ").append(x.fewest(0)).append(' ').append(x.soon(-1)).append(' ').append(x.soon(0));
        all.append(' ').append(x.wished(0)).append(' ').append(x.wished(1));
        all.append(" blame ").append(x.blame(0, 1)).append(' ').append(x.rank(0)).append(' ').append(x.mend(-1));
        for (int what = 0; what < 4; what++) {
            all.append(' ').append(x.many(what));
        }
    }

    private static void refused(Supplier<NoticeTests> made, int answer, ToIntFunction<NoticeTests> call) {
        NoticeTests x = made.get();
        due("the refused call", call.applyAsInt(x), answer);
        due("all that is told after it", allOf(x), allOf(made.get()));
    }

    @Sentence(promise = 1, says = "An object is used for at most 512 calls after it has been made")
    static void the512thCallIsAnswered() {
        NoticeTests x = new NoticeTests();
        // 4 calls and 127 times 4.
        x.say('+');
        x.say('a');
        x.say('b');
        due("read(0)", x.read(0), 3);
        for (int i = 0; i < 127; i++) {
            due("test", x.test(inputs(3, 1, 2), i % 8), 0);
            due("fewest(0)", x.fewest(0), 1);
            due("soon(0)", x.soon(0), 0);
            due("drop(0)", x.drop(0), inputs(3, 1, 2));
        }
    }

    @Sentence(promise = 1, says = "An object is used for at most 512 calls after it has been made")
    static void the512thOfDearCallsIsAnswered() {
        NoticeTests x = new NoticeTests();
        // 24 and 14 calls, and 158 times 3.
        for (char sign : sumOf(11).toCharArray()) {
            x.say(sign);
        }
        due("read(0)", x.read(0), 23);
        for (int i = 0; i < 14; i++) {
            due("test", x.test(64, 0), i);
        }
        for (int i = 0; i < 158; i++) {
            due("drop(13)", x.drop(13), 64);
            due("test(64, 0)", x.test(64, 0), 13);
            due("soon(13)", x.soon(13), 13);
        }
    }

    @Sentence(promise = 2, says = NOTHING)
    static void refusedSay() {
        refused(BoundaryRefusedTest::some, OUTSIDE, x -> x.say(32));
        refused(BoundaryRefusedTest::some, OUTSIDE, x -> x.say(127));
        refused(BoundaryRefusedTest::full, FULL, x -> x.say('+'));
        refused(BoundaryRefusedTest::full, OUTSIDE, x -> x.say(0));
    }

    @Sentence(promise = 5, says = NOTHING)
    static void refusedRead() {
        refused(BoundaryRefusedTest::some, UNKNOWN, x -> x.read(2));
        refused(BoundaryRefusedTest::some, UNKNOWN, x -> x.read(-1));
        refused(BoundaryRefusedTest::some, NO, x -> x.read(0));
        refused(BoundaryRefusedTest::some, NO, x -> x.read(1));
        refused(BoundaryRefusedTest::full, NO, x -> x.read(0));
        refused(BoundaryRefusedTest::tooLong, FULL, x -> x.read(0));
        refused(BoundaryRefusedTest::tooLong, FULL, x -> x.read(1));
    }

    @Sentence(promise = 6, says = NOTHING)
    static void refusedNode() {
        refused(BoundaryRefusedTest::some, UNKNOWN, x -> x.node(2, 0, 0));
        refused(BoundaryRefusedTest::some, UNKNOWN, x -> x.node(0, 5, 0));
        refused(BoundaryRefusedTest::some, OUTSIDE, x -> x.node(0, 0, 3));
    }

    @Sentence(promise = 7, says = NOTHING)
    static void refusedResult() {
        refused(BoundaryRefusedTest::some, UNKNOWN, x -> x.result(2, 0));
        refused(BoundaryRefusedTest::some, OUTSIDE, x -> x.result(0, 512));
    }

    @Sentence(promise = 8, says = NOTHING)
    static void refusedRuns() {
        refused(BoundaryRefusedTest::some, UNKNOWN, x -> x.runs(2, 0));
        refused(BoundaryRefusedTest::some, OUTSIDE, x -> x.runs(0, -1));
    }

    @Sentence(promise = 9, says = NOTHING)
    static void refusedChange() {
        refused(BoundaryRefusedTest::some, UNKNOWN, x -> x.change(-2, 0));
        refused(BoundaryRefusedTest::some, UNKNOWN, x -> x.change(10, 0));
        refused(BoundaryRefusedTest::some, OUTSIDE, x -> x.change(0, 6));
    }

    @Sentence(promise = 10, says = NOTHING)
    static void refusedBy() {
        refused(BoundaryRefusedTest::some, UNKNOWN, x -> x.by(10, 0));
        refused(BoundaryRefusedTest::some, OUTSIDE, x -> x.by(0, 512));
    }

    @Sentence(promise = 11, says = NOTHING)
    static void refusedTest() {
        refused(BoundaryRefusedTest::some, OUTSIDE, x -> x.test(512, 0));
        refused(BoundaryRefusedTest::some, OUTSIDE, x -> x.test(0, 8));
        refused(BoundaryRefusedTest::full, FULL, x -> x.test(7, 7));
        refused(BoundaryRefusedTest::full, OUTSIDE, x -> x.test(7, -1));
    }

    @Sentence(promise = 12, says = NOTHING)
    static void refusedDrop() {
        refused(BoundaryRefusedTest::some, UNKNOWN, x -> x.drop(3));
        refused(BoundaryRefusedTest::some, UNKNOWN, x -> x.drop(-1));
        refused(BoundaryRefusedTest::full, UNKNOWN, x -> x.drop(14));
        refused(NoticeTests::new, UNKNOWN, x -> x.drop(0));
    }

    @Sentence(promise = 13, says = NOTHING)
    static void refusedOf() {
        refused(BoundaryRefusedTest::some, UNKNOWN, x -> x.of(3, 0));
        refused(BoundaryRefusedTest::some, OUTSIDE, x -> x.of(0, 4));
    }

    @Sentence(promise = 14, says = NOTHING)
    static void refusedMany() {
        refused(BoundaryRefusedTest::some, OUTSIDE, x -> x.many(4));
    }

    @Sentence(promise = 15, says = NOTHING)
    static void refusedScore() {
        refused(BoundaryRefusedTest::some, OUTSIDE, x -> x.score(2));
    }

    @Sentence(promise = 16, says = NOTHING)
    static void refusedFewest() {
        refused(BoundaryRefusedTest::some, OUTSIDE, x -> x.fewest(2));
    }

    @Sentence(promise = 17, says = NOTHING)
    static void soonOfNone() {
        refused(BoundaryRefusedTest::some, NONE, x -> x.soon(3));
        refused(BoundaryRefusedTest::full, NONE, x -> x.soon(14));
    }

    @Sentence(promise = 18, says = NOTHING)
    static void refusedWished() {
        refused(BoundaryRefusedTest::some, OUTSIDE, x -> x.wished(2));
    }

    @Sentence(promise = 19, says = NOTHING)
    static void refusedBlame() {
        refused(BoundaryRefusedTest::some, UNKNOWN, x -> x.blame(5, 0));
        refused(BoundaryRefusedTest::some, OUTSIDE, x -> x.blame(0, 2));
    }

    @Sentence(promise = 20, says = NOTHING)
    static void rankOfNone() {
        refused(BoundaryRefusedTest::some, NONE, x -> x.rank(5));
        refused(BoundaryRefusedTest::full, NONE, x -> x.rank(23));
    }

    @Sentence(promise = 21, says = NOTHING)
    static void refusedMend() {
        refused(BoundaryRefusedTest::full, STATE, x -> x.mend(-1));
        refused(BoundaryRefusedTest::full, STATE, x -> x.mend(0));
        refused(BoundaryRefusedTest::some, NONE, x -> x.mend(100));
    }

    @Sentence(promise = 22, says = NOTHING)
    static void refusedParts() {
        refused(BoundaryRefusedTest::some, OUTSIDE, x -> x.parts(2));
    }

    @Sentence(promise = 23, says = NOTHING)
    static void refusedLess() {
        refused(BoundaryRefusedTest::some, OUTSIDE, x -> x.less(512, 0));
        refused(BoundaryRefusedTest::some, OUTSIDE, x -> x.less(8, 2));
        refused(BoundaryRefusedTest::full, STATE, x -> x.less(8, 0));
    }

    @Sentence(promise = 24, says = NOTHING)
    static void refusedTold() {
        refused(BoundaryRefusedTest::some, OUTSIDE, x -> x.told(5));
    }
}

import java.util.ArrayList;
import java.util.List;
import java.util.Random;

/** Runs of drawn calls, the same ones each time, on the class and on PlainModel. */
public final class AgainstPlainTest {
    private static final int RUNS = 160;
    private static final int CALLS = 400;

    private final Random random;
    private final NoticeTests real = new NoticeTests();
    private final PlainModel plain = new PlainModel();
    private final List<String> calls = new ArrayList<>();
    private int wrong = 0;

    private AgainstPlainTest(long seed) {
        random = new Random(seed);
    }

    public static void main(String[] args) {
        int runs = args.length > 1 ? Integer.parseInt(args[1]) : RUNS;
        int wrongRuns = 0;
        for (int run = 0; run < runs; run++) {
            AgainstPlainTest one = new AgainstPlainTest(run);
            one.go();
            wrongRuns += one.wrong > 0 ? 1 : 0;
        }
        System.out.println(wrongRuns + " of " + runs + " runs differ from the plain model");
        if (wrongRuns > 0) {
            System.exit(1);
        }
    }

    private void go() {
        int rarity = 1 + random.nextInt(12);
        while (calls.size() < CALLS && wrong == 0) {
            int draw = random.nextInt(10 * rarity);
            if (draw == 0) {
                writeText();
            } else if (draw == 1) {
                writeJunk();
            } else if (draw < 2 + rarity) {
                addTest();
            } else if (draw == 2 + rarity) {
                int test = drawn(0, 14);
                check("drop(" + test + ")", real.drop(test), plain.drop(test));
            } else {
                ask();
            }
        }
    }

    private void check(String call, int got, int due) {
        calls.add(call);
        if (got != due) {
            wrong++;
            System.out.println(calls + " answered " + got + ", due is " + due);
        }
    }

    /** Mostly from low to high, now and then outside. */
    private int drawn(int low, int high) {
        switch (random.nextInt(40)) {
            case 0: return low - 1 - random.nextInt(3);
            case 1: return high + 1 + random.nextInt(3);
            case 2: return random.nextInt();
            default: return low + random.nextInt(high - low + 1);
        }
    }

    private String text(int room, int within) {
        int draw = random.nextInt(10);
        if (room >= 5 && within < 9 && draw < 4) {
            StringBuilder made = new StringBuilder().append("<>=".charAt(random.nextInt(3)));
            for (int i = 0; i < 4; i++) {
                made.append(text(room - made.length() - (3 - i), within + 1));
            }
            return made.toString();
        }
        if (room >= 3 && within < 9 && draw < 8) {
            StringBuilder made = new StringBuilder().append("+-*mM".charAt(random.nextInt(5)));
            made.append(text(room - 2, within + 1));
            return made.append(text(room - made.length(), within + 1)).toString();
        }
        return "" + "aabbcc01234567".charAt(random.nextInt(14));
    }

    private void sayAll(String signs) {
        for (char sign : signs.toCharArray()) {
            check("say(" + (int) sign + ")", real.say(sign), plain.say(sign));
        }
    }

    private void writeText() {
        if (random.nextInt(4) > 0) {
            check("wipe()", real.wipe(), plain.wipe());
        }
        sayAll(text(1 + random.nextInt(random.nextInt(3) == 0 ? 40 : 24), 0));
        check("fault()", real.fault(), plain.fault());
        int text = random.nextInt(3) == 0 ? drawn(0, 1) : random.nextInt(2);
        check("read(" + text + ")", real.read(text), plain.read(text));
    }

    private void writeJunk() {
        String signs = "+-*mM<>=abc0123456789dA!~";
        for (int i = random.nextInt(15); i > 0; i--) {
            int sign = signs.charAt(random.nextInt(random.nextInt(3) == 0 ? signs.length() : 5));
            if (random.nextInt(20) == 0) {
                sign = drawn(33, 126);
            }
            check("say(" + sign + ")", real.say(sign), plain.say(sign));
        }
        check("fault()", real.fault(), plain.fault());
    }

    private void addTest() {
        int inputs = drawn(0, 511);
        int due = random.nextInt(3) == 0 ? drawn(0, 7) : plain.result(0, inputs);
        check("test(" + inputs + ", " + due + ")", real.test(inputs, due), plain.test(inputs, due));
    }

    private void ask() {
        plain.prepare();
        int text = drawn(0, 1);
        int inputs = drawn(0, 511);
        int many = plain.change(-1, 0);
        int i;
        int what;
        switch (random.nextInt(18)) {
            case 0:
                i = drawn(0, plain.told(1 + random.nextInt(2)));
                what = drawn(0, 2);
                check("node(" + text + ", " + i + ", " + what + ")", real.node(text, i, what), plain.node(text, i, what));
                break;
            case 1:
                check("result(" + text + ", " + inputs + ")", real.result(text, inputs), plain.result(text, inputs));
                break;
            case 2:
                check("runs(" + text + ", " + inputs + ")", real.runs(text, inputs), plain.runs(text, inputs));
                break;
            case 3:
            case 4:
                i = drawn(-1, many);
                what = drawn(0, 5);
                check("change(" + i + ", " + what + ")", real.change(i, what), plain.change(i, what));
                break;
            case 5:
                i = drawn(0, many);
                check("by(" + i + ", " + inputs + ")", real.by(i, inputs), plain.by(i, inputs));
                break;
            case 6:
                i = drawn(0, plain.told(3));
                what = drawn(0, 3);
                check("of(" + i + ", " + what + ")", real.of(i, what), plain.of(i, what));
                break;
            case 7:
                what = drawn(0, 3);
                check("many(" + what + ")", real.many(what), plain.many(what));
                break;
            case 8:
                what = drawn(0, 1);
                check("score(" + what + ")", real.score(what), plain.score(what));
                break;
            default:
                askLater(inputs);
                break;
        }
    }

    private void askLater(int inputs) {
        int i;
        int what = drawn(0, 1);
        switch (random.nextInt(9)) {
            case 0:
                check("fewest(" + what + ")", real.fewest(what), plain.fewest(what));
                break;
            case 1:
                i = drawn(-1, plain.told(3));
                check("soon(" + i + ")", real.soon(i), plain.soon(i));
                break;
            case 2:
                check("wished(" + what + ")", real.wished(what), plain.wished(what));
                break;
            case 3:
                i = drawn(0, plain.told(1));
                check("blame(" + i + ", " + what + ")", real.blame(i, what), plain.blame(i, what));
                break;
            case 4:
                i = drawn(0, plain.told(1));
                check("rank(" + i + ")", real.rank(i), plain.rank(i));
                break;
            case 5:
                i = drawn(-2, 8);
                check("mend(" + i + ")", real.mend(i), plain.mend(i));
                break;
            case 6:
                check("parts(" + what + ")", real.parts(what), plain.parts(what));
                break;
            case 7:
                check("less(" + inputs + ", " + what + ")", real.less(inputs, what), plain.less(inputs, what));
                break;
            default:
                what = drawn(0, 4);
                check("told(" + what + ")", real.told(what), plain.told(what));
                break;
        }
    }
}

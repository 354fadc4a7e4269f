/** What the tests by hand share: objects made by their TEXTS, and answers that are looked at. */
abstract class Answers {
    static final int UNKNOWN = -1, OUTSIDE = -2, STATE = -3, FULL = -4, NO = -5, NONE = -6;
    /** Numbers that no call takes. */
    static final int[] FAR = {Integer.MIN_VALUE, -1000, 1000, Integer.MAX_VALUE};

    private static String about = "";
    private static int wrong = 0;
    private static int asked = 0;

    /** What the answers that follow belong to. */
    static void about(String what) {
        about = what;
    }

    static void due(String call, int got, int want) {
        asked++;
        if (got != want) {
            wrong++;
            System.out.println(about + ": " + call + " answered " + got + ", due is " + want);
        }
    }

    static void due(String call, String got, String want) {
        asked++;
        if (!got.equals(want)) {
            wrong++;
            System.out.println(about + ": " + call + " answered\n" + got + ", due is\n" + want);
        }
    }

    static void end() {
        System.out.println(asked + " answers looked at, " + wrong + " not as due");
        if (wrong > 0) {
            System.exit(1);
        }
    }

    static void lay(NoticeTests x, String signs) {
        x.wipe();
        for (char sign : signs.toCharArray()) {
            x.say(sign);
        }
    }

    static NoticeTests of(String first, String second) {
        NoticeTests x = new NoticeTests();
        lay(x, first);
        due("read(0) of " + first, x.read(0), first.length());
        lay(x, second);
        due("read(1) of " + second, x.read(1), second.length());
        return x;
    }

    static int inputs(int a, int b, int c) {
        return 64 * a + 8 * b + c;
    }

    static void addTests(NoticeTests x, int due, int... inputs) {
        for (int one : inputs) {
            x.test(one, due);
        }
    }

    /** a + b; NOTICED by TESTS 0 to 3: - 2 3, * 1 2 3, m 1 2 3, M 3, bb 1 2, cb 1, aa 1 2, ac 2. */
    static NoticeTests sumWithTests() {
        NoticeTests x = of("+ab", "0");
        x.test(0, 0);
        x.test(inputs(1, 0, 0), 1);
        x.test(inputs(0, 1, 0), 1);
        x.test(inputs(1, 1, 1), 2);
        return x;
    }

    /** A TEXT of so many ACTS, lying within few others. */
    static String sumOf(int acts) {
        return acts == 0 ? "a" : "+" + sumOf((acts - 1) / 2) + sumOf(acts - 1 - (acts - 1) / 2);
    }

    static void manyAre(NoticeTests x, int silent, int noticed, int hidden, int front) {
        due("many(0)", x.many(0), silent);
        due("many(1)", x.many(1), noticed);
        due("many(2)", x.many(2), hidden);
        due("many(3)", x.many(3), front);
    }

    static void scoreIs(NoticeTests x, int upper, int lower) {
        due("score(0)", x.score(0), upper);
        due("score(1)", x.score(1), lower);
    }

    static void fewestIs(NoticeTests x, int set, int many) {
        due("fewest(0)", x.fewest(0), set);
        due("fewest(1)", x.fewest(1), many);
    }

    static void soonIs(NoticeTests x, int sum, int... order) {
        due("soon(-1)", x.soon(-1), sum);
        for (int i = 0; i < order.length; i++) {
            due("soon(" + i + ")", x.soon(i), order[i]);
        }
        due("soon after the last", x.soon(order.length), NONE);
    }

    static void wishedIs(NoticeTests x, int inputs, int many) {
        due("wished(0)", x.wished(0), inputs);
        due("wished(1)", x.wished(1), many);
    }

    static void blamesAre(NoticeTests x, int... uppersAndLowers) {
        for (int node = 0; 2 * node < uppersAndLowers.length; node++) {
            due("blame(" + node + ", 0)", x.blame(node, 0), uppersAndLowers[2 * node]);
            due("blame(" + node + ", 1)", x.blame(node, 1), uppersAndLowers[2 * node + 1]);
        }
    }

    static void ranksAre(NoticeTests x, int... nodes) {
        for (int i = 0; i < nodes.length; i++) {
            due("rank(" + i + ")", x.rank(i), nodes[i]);
        }
        due("rank after the last", x.rank(nodes.length), NONE);
    }

    static void mendsAre(NoticeTests x, int kinds, int... changes) {
        due("mend(-1)", x.mend(-1), changes.length);
        due("mend(-2)", x.mend(-2), kinds);
        for (int i = 0; i < changes.length; i++) {
            due("mend(" + i + ")", x.mend(i), changes[i]);
        }
        due("mend after the last", x.mend(changes.length), NONE);
        due("mend(-3)", x.mend(-3), NONE);
    }

    static void partsAre(NoticeTests x, int many, int least) {
        due("parts(0)", x.parts(0), many);
        due("parts(1)", x.parts(1), least);
    }

    static void lessIs(NoticeTests x, int from, int end, int steps) {
        due("less(" + from + ", 0)", x.less(from, 0), end);
        due("less(" + from + ", 1)", x.less(from, 1), steps);
    }
}

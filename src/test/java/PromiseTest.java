/** Each promise by hand: ordinary inputs, the edges that the document names, and wrong inputs. */
public final class PromiseTest {
    private static final int NONE = -6, UNKNOWN = -1, OUTSIDE = -2, STATE = -3, FULL = -4, NO = -5;
    private static final int LEAST_INT = Integer.MIN_VALUE, GREATEST_INT = Integer.MAX_VALUE;

    private static int wrong = 0;
    private static int promise = 0;

    private static void due(String call, int got, int want) {
        if (got != want) {
            wrong++;
            System.out.println("promise " + promise + ": " + call + " answered " + got + ", due is " + want);
        }
    }

    private static void due(String call, String got, String want) {
        if (!got.equals(want)) {
            wrong++;
            System.out.println("promise " + promise + ": " + call + " is " + got + ", due is " + want);
        }
    }

    public static void main(String[] args) {
        Runnable[] all = {
            PromiseTest::aNewObject, PromiseTest::say, PromiseTest::wipe, PromiseTest::fault, PromiseTest::read,
            PromiseTest::node, PromiseTest::sign, PromiseTest::take, PromiseTest::alike, PromiseTest::price,
            PromiseTest::least, PromiseTest::led, PromiseTest::edits, PromiseTest::moved, PromiseTest::common,
            PromiseTest::twice, PromiseTest::rule, PromiseTest::clear, PromiseTest::fits, PromiseTest::make,
            PromiseTest::walk, PromiseTest::steps, PromiseTest::overlap, PromiseTest::peak, PromiseTest::overlaps,
            PromiseTest::told
        };
        for (int k = 0; k < all.length; k++) {
            promise = k + 1;
            all[k].run();
        }
        System.out.println(wrong == 0 ? "PromiseTest: all answers are as due" : "PromiseTest: " + wrong + " wrong");
        if (wrong != 0) System.exit(1);
    }

    // ---- helpers

    private static void sayAll(TreeHands x, String signs) {
        for (char c : signs.toCharArray()) x.say(c);
    }

    private static int put(TreeHands x, int t, String tree) {
        x.wipe();
        sayAll(x, tree);
        return x.read(t);
    }

    private static TreeHands with(String... trees) {
        TreeHands x = new TreeHands();
        for (int t = 0; t < trees.length; t++) due("read " + trees[t], put(x, t, trees[t]) > 0 ? 1 : 0, 1);
        return x;
    }

    /** RULES written left=right; TREES 4 and 5 are used for them. */
    private static TreeHands ruled(String... rules) {
        TreeHands x = new TreeHands();
        for (int r = 0; r < rules.length; r++) due("rule " + rules[r], addRule(x, rules[r]), r);
        return x;
    }

    private static int addRule(TreeHands x, String rule) {
        String[] sides = rule.split("=");
        due("read " + sides[0], put(x, 4, sides[0]) > 0 ? 1 : 0, 1);
        due("read " + sides[1], put(x, 5, sides[1]) > 0 ? 1 : 0, 1);
        return x.rule(4, 5);
    }

    private static String text(TreeHands x, int t) {
        StringBuilder b = new StringBuilder();
        int n = x.sign(t, -1);
        for (int i = 0; i < n; i++) b.append((char) x.sign(t, i));
        return b.toString();
    }

    private static final String CHAIN16 = "a(a(a(a(a(a(a(a(a(a(a(a(a(a(a(b)))))))))))))))";

    // ---- 1 trees

    private static void aNewObject() {
        TreeHands x = new TreeHands();
        due("told(0)", x.told(0), 0);
        due("told(1)", x.told(1), 0);
        for (int t = 0; t < 6; t++) {
            due("told(1" + t + ")", x.told(10 + t), 0);
            due("told(2" + t + ")", x.told(20 + t), 0);
            due("sign(" + t + ", -1)", x.sign(t, -1), UNKNOWN);
            due("node(" + t + ", 0, 0)", x.node(t, 0, 0), UNKNOWN);
        }
        due("fault()", x.fault(), 0);
        due("steps()", x.steps(), NONE);
        due("wipe()", x.wipe(), 0);
        due("clear()", x.clear(), 0);
        due("overlaps(0)", x.overlaps(0), 0);
        TreeHands other = new TreeHands();
        put(x, 0, "a");
        due("told(10) of another object", other.told(10), 0);
    }

    private static void say() {
        TreeHands x = new TreeHands();
        for (int bad : new int[] {32, 127, 0, -1, 10, LEAST_INT, GREATEST_INT, 33 + 256, 'a' + 65536}) {
            due("say(" + bad + ")", x.say(bad), OUTSIDE);
        }
        due("say(33)", x.say(33), 1);
        due("say(126)", x.say(126), 2);
        for (int n = 3; n <= 60; n++) due("say(97)", x.say(97), n);
        due("say(97), 61st", x.say(97), FULL);
        due("say(127), full", x.say(127), OUTSIDE);
        due("told(0)", x.told(0), 60);
    }

    private static void wipe() {
        TreeHands x = new TreeHands();
        due("wipe()", x.wipe(), 0);
        sayAll(x, "a(b");
        due("wipe()", x.wipe(), 3);
        due("wipe() again", x.wipe(), 0);
        due("say(97)", x.say(97), 1);
        due("fault()", x.fault(), NONE);
        x.wipe();
        for (int n = 0; n < 60; n++) x.say('(');
        due("wipe() of 60", x.wipe(), 60);
    }

    private static void fault() {
        String[][] all = {
            {"", "0"}, {"a", "-6"}, {"z", "-6"}, {"A", "-6"}, {"H", "-6"}, {"I", "0"}, {"Z", "0"}, {"!", "0"}, {"~", "0"},
            {"@", "0"}, {"`", "0"}, {"{", "0"}, {"1", "0"}, {"(", "0"}, {")", "0"}, {"a(", "2"}, {"a()", "2"}, {"a(b", "3"},
            {"a(b)", "-6"}, {"a(b))", "4"}, {"a(b)c", "4"}, {"a(b)(", "4"}, {"a(b)(c)", "4"}, {"ab", "1"}, {"AB", "1"},
            {"A(", "1"}, {"A(b)", "1"}, {"a(A(b))", "3"}, {"a(bA)", "-6"}, {"a(Ab)", "-6"}, {"a(b(c)d)", "-6"},
            {"a(b(c)(d))", "6"}, {"a((b))", "2"}, {"a(b(c", "5"}, {"a(b(c)", "6"}, {"a)", "1"}, {"aI", "1"}, {"a(b,c)", "3"},
            {"a(bI)", "3"}, {"a(b()", "4"}, {"a(bcdefghijklmnopqrstuvwxyz)", "-6"}
        };
        for (String[] one : all) {
            TreeHands x = new TreeHands();
            sayAll(x, one[0]);
            due("fault() of " + one[0], x.fault(), Integer.parseInt(one[1]));
            due("told(0)", x.told(0), one[0].length());
        }
        TreeHands x = new TreeHands();
        for (int n = 0; n < 30; n++) sayAll(x, "a(");
        due("fault() of 60 signs", x.fault(), 60);
    }

    private static void read() {
        TreeHands x = new TreeHands();
        sayAll(x, "a(bC)");
        due("read(-1)", x.read(-1), UNKNOWN);
        due("read(6)", x.read(6), UNKNOWN);
        due("told(0)", x.told(0), 5);
        due("read(5)", x.read(5), 3);
        due("told(0)", x.told(0), 0);
        due("text", text(x, 5), "a(bC)");
        due("read(5), empty PAD", x.read(5), NO);
        due("text", text(x, 5), "a(bC)");
        due("read 16", put(x, 5, "a(bbbbbbbbbbbbbbb)"), 16);
        due("read 17", put(x, 5, "a(bbbbbbbbbbbbbbbb)"), FULL);
        due("told(0)", x.told(0), 19);
        due("told(15)", x.told(15), 16);
        due("read 17 with a fault", put(x, 5, "a(bbbbbbbbbbbbbbbb"), NO);
        due("told(0)", x.told(0), 18);
        due("read(6) with a fault", x.read(6), UNKNOWN);
        due("read chain", put(x, 0, CHAIN16), 16);
        due("text", text(x, 0), CHAIN16);
        due("read over", put(x, 0, "q"), 1);
        due("text", text(x, 0), "q");
        due("read hole", put(x, 1, "H"), 1);
        x.wipe();
        for (int n = 0; n < 20; n++) sayAll(x, "a(");
        for (int n = 0; n < 20; n++) sayAll(x, n == 0 ? "a" : ")");
        due("fault() of 60", x.fault(), 60);
        due("read of 60 with a fault", x.read(0), NO);
    }

    private static void node() {
        TreeHands x = with("f(g(aB)h(c(d))e)");
        int[][] want = {
            {'f', NONE, NONE, 3, 8, 0}, {'g', 0, 0, 2, 3, 1}, {'a', 1, 0, 0, 1, 2}, {'B', 1, 1, 0, 1, 2},
            {'h', 0, 1, 1, 3, 1}, {'c', 4, 0, 1, 2, 2}, {'d', 5, 0, 0, 1, 3}, {'e', 0, 2, 0, 1, 1}
        };
        for (int i = 0; i < want.length; i++) {
            for (int w = 0; w < 6; w++) due("node(0, " + i + ", " + w + ")", x.node(0, i, w), want[i][w]);
        }
        due("node(0, 0, 6)", x.node(0, 0, 6), OUTSIDE);
        due("node(0, 0, -1)", x.node(0, 0, -1), OUTSIDE);
        due("node(0, 8, 0)", x.node(0, 8, 0), UNKNOWN);
        due("node(0, -1, 0)", x.node(0, -1, 0), UNKNOWN);
        due("node(0, 8, 6)", x.node(0, 8, 6), UNKNOWN);
        due("node(1, 0, 0), empty", x.node(1, 0, 0), UNKNOWN);
        due("node(6, 0, 0)", x.node(6, 0, 0), UNKNOWN);
        due("node(-1, 0, 0)", x.node(-1, 0, 0), UNKNOWN);
        due("node(max)", x.node(GREATEST_INT, GREATEST_INT, GREATEST_INT), UNKNOWN);
        due("node(0, min, 0)", x.node(0, LEAST_INT, 0), UNKNOWN);
        put(x, 1, CHAIN16);
        due("node(1, 15, 5)", x.node(1, 15, 5), 15);
        due("node(1, 15, 1)", x.node(1, 15, 1), 14);
        due("node(1, 0, 4)", x.node(1, 0, 4), 16);
        due("node(1, 16, 4)", x.node(1, 16, 4), UNKNOWN);
        put(x, 1, "a(bbbbbbbbbbbbbbb)");
        due("node(1, 15, 2)", x.node(1, 15, 2), 14);
        due("node(1, 0, 3)", x.node(1, 0, 3), 15);
    }

    private static void sign() {
        TreeHands x = with("a(b(cD)e)", CHAIN16, "B");
        due("text", text(x, 0), "a(b(cD)e)");
        due("sign(0, -1)", x.sign(0, -1), 9);
        due("sign(0, 8)", x.sign(0, 8), ')');
        due("sign(0, 9)", x.sign(0, 9), NONE);
        due("sign(0, -2)", x.sign(0, -2), NONE);
        due("sign(0, max)", x.sign(0, GREATEST_INT), NONE);
        due("sign(0, min)", x.sign(0, LEAST_INT), NONE);
        due("sign(1, -1)", x.sign(1, -1), 46);
        due("sign(1, 45)", x.sign(1, 45), ')');
        due("sign(1, 46)", x.sign(1, 46), NONE);
        due("sign(2, 0)", x.sign(2, 0), 'B');
        due("sign(3, 0), empty", x.sign(3, 0), UNKNOWN);
        due("sign(3, -1), empty", x.sign(3, -1), UNKNOWN);
        due("sign(6, 0)", x.sign(6, 0), UNKNOWN);
        due("sign(-1, 0)", x.sign(-1, 0), UNKNOWN);
    }

    private static void take() {
        TreeHands x = with("f(g(aB)h)");
        due("take(0, 1, 5)", x.take(0, 1, 5), 3);
        due("text", text(x, 5), "g(aB)");
        due("node(5, 0, 1)", x.node(5, 0, 1), NONE);
        due("node(5, 2, 5)", x.node(5, 2, 5), 1);
        due("text, the first", text(x, 0), "f(g(aB)h)");
        due("take(0, 0, 1)", x.take(0, 0, 1), 5);
        due("take(1, 1, 1), itself", x.take(1, 1, 1), 3);
        due("text", text(x, 1), "g(aB)");
        due("take(1, 0, 1), itself", x.take(1, 0, 1), 3);
        due("take(0, 5, 1)", x.take(0, 5, 1), UNKNOWN);
        due("take(0, -1, 1)", x.take(0, -1, 1), UNKNOWN);
        due("take(0, 0, 6)", x.take(0, 0, 6), UNKNOWN);
        due("take(0, 0, -1)", x.take(0, 0, -1), UNKNOWN);
        due("take(6, 0, 0)", x.take(6, 0, 0), UNKNOWN);
        due("take(3, 0, 0), empty", x.take(3, 0, 0), UNKNOWN);
        due("text", text(x, 0), "f(g(aB)h)");
    }

    private static void alike() {
        TreeHands x = with("f(g(ab)g(ab)g(ba)A)", "g(ab)", "f(ab)", "g(a(b))", "A");
        due("alike(0, 1, 0, 4)", x.alike(0, 1, 0, 4), 1);
        due("alike(0, 1, 0, 7)", x.alike(0, 1, 0, 7), 0);
        due("alike(0, 1, 1, 0)", x.alike(0, 1, 1, 0), 1);
        due("alike(1, 0, 2, 0)", x.alike(1, 0, 2, 0), 0);
        due("alike(1, 0, 3, 0)", x.alike(1, 0, 3, 0), 0);
        due("alike(0, 0, 0, 0)", x.alike(0, 0, 0, 0), 1);
        due("alike(0, 2, 0, 9)", x.alike(0, 2, 0, 9), 1);
        due("alike(0, 10, 4, 0)", x.alike(0, 10, 4, 0), 1);
        due("alike(0, 10, 0, 2)", x.alike(0, 10, 0, 2), 0);
        due("alike(0, 11, 0, 0)", x.alike(0, 11, 0, 0), UNKNOWN);
        due("alike(0, 0, 0, 11)", x.alike(0, 0, 0, 11), UNKNOWN);
        due("alike(0, 0, 5, 0)", x.alike(0, 0, 5, 0), UNKNOWN);
        due("alike(5, 0, 0, 0)", x.alike(5, 0, 0, 0), UNKNOWN);
        due("alike(-1, 0, 0, 0)", x.alike(-1, 0, 0, 0), UNKNOWN);
        due("alike(0, 0, 6, 0)", x.alike(0, 0, 6, 0), UNKNOWN);
        due("alike(0, -1, 0, 0)", x.alike(0, -1, 0, 0), UNKNOWN);
    }

    // ---- 2 edits

    private static void price() {
        TreeHands x = with("a", "b");
        due("least", x.least(0, 1), 2);
        due("price(2, 9)", x.price(2, 9), 2);
        due("least", x.least(0, 1), 6);
        due("price(0, 0)", x.price(0, 0), 3);
        due("least", x.least(0, 1), 3);
        due("price(1, 1)", x.price(1, 1), 3);
        due("least", x.least(0, 1), 1);
        due("price(2, 0)", x.price(2, 0), 9);
        due("least", x.least(0, 1), 0);
        due("price(3, 0)", x.price(3, 0), OUTSIDE);
        due("price(-1, 0)", x.price(-1, 0), OUTSIDE);
        due("price(0, 10)", x.price(0, 10), OUTSIDE);
        due("price(0, -1)", x.price(0, -1), OUTSIDE);
        due("price(max, 0)", x.price(GREATEST_INT, 0), OUTSIDE);
        due("price(0, min)", x.price(0, LEAST_INT), OUTSIDE);
        due("price(0, 0)", x.price(0, 0), 0);
        due("price(1, 0)", x.price(1, 0), 1);
        due("price(2, 0)", x.price(2, 0), 0);
    }

    private static void least() {
        TreeHands x = with("f(g(ab)c)", "f(abc)", CHAIN16, "a(bbbbbbbbbbbbbbb)");
        due("least(0, 1)", x.least(0, 1), 3);
        due("least(1, 0)", x.least(1, 0), 3);
        due("least(0, 0)", x.least(0, 0), 0);
        // one a and one b can stay: 14 dropped, 14 added, or some of the dropped renamed
        due("least(2, 3)", x.least(2, 3), 14 * 6);
        x.price(0, 9);
        x.price(1, 9);
        x.price(2, 9);
        due("least(2, 3), dear", x.least(2, 3), 14 * 18);
        x.price(0, 0);
        due("least(0, 1)", x.least(0, 1), 0);
        due("least(1, 0)", x.least(1, 0), 9);
        due("least(4, 0), empty", x.least(4, 0), UNKNOWN);
        due("least(0, 4), empty", x.least(0, 4), UNKNOWN);
        due("least(4, 4), empty", x.least(4, 4), UNKNOWN);
        due("least(6, 0)", x.least(6, 0), UNKNOWN);
        due("least(0, -1)", x.least(0, -1), UNKNOWN);
        // HOLES are LABELS
        TreeHands y = with("f(A)", "f(B)", "f(a)");
        due("least A to B", y.least(0, 1), 2);
        due("least A to a", y.least(0, 2), 2);
        due("least A to A", y.least(0, 0), 0);
        // known answers do not outlive a TREE
        put(y, 1, "f(A)");
        due("least A to A", y.least(0, 1), 0);
        y.take(1, 1, 0);
        due("least A to f(A)", y.least(0, 1), 3);
    }

    private static String row(TreeHands x, int s, int t) {
        StringBuilder b = new StringBuilder();
        for (int i = 0; i < x.told(10 + s); i++) b.append(i == 0 ? "" : " ").append(x.led(s, t, i));
        return b.toString();
    }

    private static void led() {
        TreeHands x = with("f(ab)", "f(ba)", "f(aa)", "f(a)", "a(a(a))", "a");
        // a to b and b to a by names: 4; or one led and the other dropped and added: 6
        due("row", row(x, 0, 1), "0 1 2");
        due("row, aa to a", row(x, 2, 3), "0 1 99");
        due("row, a to aa", row(x, 3, 2), "0 1");
        due("row, chain to a", row(x, 4, 5), "0 99 99");
        due("row, a to chain", row(x, 5, 4), "0");
        x.price(2, 9);
        // dear names: a or b stays, the first by rows leads a to NODE 2
        due("row, dear names", row(x, 0, 1), "0 2 99");
        x.price(0, 0);
        x.price(1, 0);
        due("row, all free", row(x, 0, 1), "0 2 99");
        x.price(2, 0);
        due("row, names too", row(x, 0, 1), "0 1 2");
        due("row, names too", row(x, 2, 3), "0 1 99");
        due("row, names too", row(x, 4, 0), "0 1 99");
        due("led(0, 1, 3)", x.led(0, 1, 3), UNKNOWN);
        due("led(0, 1, -1)", x.led(0, 1, -1), UNKNOWN);
        due("led(6, 1, 0)", x.led(6, 1, 0), UNKNOWN);
        due("led(0, 6, 0)", x.led(0, 6, 0), UNKNOWN);
        due("led(0, -1, 0)", x.led(0, -1, 0), UNKNOWN);
        TreeHands y = with(CHAIN16, "b(aaaaaaaaaaaaaab)");
        due("row of 16", row(y, 0, 1), "0 1 99 99 99 99 99 99 99 99 99 99 99 99 99 99");
        due("row to itself", row(y, 1, 1), "0 1 2 3 4 5 6 7 8 9 10 11 12 13 14 15");
        due("led(0, 2, 0), empty", y.led(0, 2, 0), UNKNOWN);
        due("led(2, 0, 0), empty", y.led(2, 0, 0), UNKNOWN);
    }

    private static void edits() {
        TreeHands x = with("f(g(ab)h(cd)e)", "f(h(cx)g(ab))");
        int led = 0;
        for (int i = 0; i < 8; i++) led += x.led(0, 1, i) == 99 ? 0 : 1;
        due("edits(0, 1, 0)", x.edits(0, 1, 0), led);
        due("edits(0, 1, 2)", x.edits(0, 1, 2), 8 - led);
        due("edits(0, 1, 3)", x.edits(0, 1, 3), 7 - led);
        TreeHands y = with("f(g(ab)c)", "f(cg(ad))");
        int[] want = {4, 1, 1, 1, 1, 1};
        for (int w = 0; w < 6; w++) due("edits(0, 1, " + w + ")", y.edits(0, 1, w), want[w]);
        want = new int[] {5, 0, 0, 0, 0, 0};
        for (int w = 0; w < 6; w++) due("edits(0, 0, " + w + ")", y.edits(0, 0, w), want[w]);
        due("edits(0, 1, 6)", y.edits(0, 1, 6), OUTSIDE);
        due("edits(0, 1, -1)", y.edits(0, 1, -1), OUTSIDE);
        due("edits(6, 1, 6)", y.edits(6, 1, 6), UNKNOWN);
        due("edits(0, 6, 0)", y.edits(0, 6, 0), UNKNOWN);
        due("edits(-1, 0, 0)", y.edits(-1, 0, 0), UNKNOWN);
        due("edits(0, 2, 0), empty", y.edits(0, 2, 0), UNKNOWN);
        due("edits(2, 0, 0), empty", y.edits(2, 0, 0), UNKNOWN);
        due("edits(2, 0, 6), empty", y.edits(2, 0, 6), UNKNOWN);
    }

    private static void moved() {
        TreeHands x = with("f(g(ab)c)", "f(cg(ad))");
        due("moved(0, 1, 0)", x.moved(0, 1, 0), 401);
        due("moved(0, 1, 1)", x.moved(0, 1, 1), NONE);
        due("moved(0, 1, -1)", x.moved(0, 1, -1), NONE);
        due("moved(0, 1, max)", x.moved(0, 1, GREATEST_INT), NONE);
        due("moved(0, 0, 0)", x.moved(0, 0, 0), NONE);
        due("moved(6, 0, 0)", x.moved(6, 0, 0), UNKNOWN);
        due("moved(0, 6, 0)", x.moved(0, 6, 0), UNKNOWN);
        due("moved(0, 2, 0), empty", x.moved(0, 2, 0), UNKNOWN);
        due("moved(2, 0, 0), empty", x.moved(2, 0, 0), UNKNOWN);
        // two pieces move behind a great one that stays: the greater first, each once
        TreeHands y = with("f(ag(bc)am(nopqr))", "f(m(nopqr)ag(bc))");
        due("row", row(y, 0, 1), "0 99 99 99 99 99 1 2 3 4 5 6");
        due("edits 4", y.edits(0, 1, 4), 2);
        due("edits 5", y.edits(0, 1, 5), 4);
        due("moved 0", y.moved(0, 1, 0), 208);
        due("moved 1", y.moved(0, 1, 1), 107);
        due("moved 2", y.moved(0, 1, 2), NONE);
        due("moved back 0", y.moved(1, 0, 0), 802);
        due("moved back 1", y.moved(1, 0, 1), 701);
        // a NODE with a led one within is not moved, though what else is within may be
        TreeHands z = with("f(g(m(nop)a))", "f(m(nop)g(a))");
        due("row", row(z, 0, 1), "0 99 1 2 3 4 6");
        due("moved", z.moved(0, 1, 0), NONE);
    }

    // ---- 3 common

    private static void common() {
        TreeHands x = with("f(g(ab)g(ab)h(c))", "f(bbh(d))", "f(ab)", "f(abc)");
        due("common", x.common(0, 0, 1, 0, 5), 2);
        due("text", text(x, 5), "f(AAh(B))");
        due("told(25)", x.told(25), 2);
        due("common of itself", x.common(0, 0, 0, 0, 5), 0);
        due("text", text(x, 5), "f(g(ab)g(ab)h(c))");
        due("common, other number of parts", x.common(2, 0, 3, 0, 5), 1);
        due("text", text(x, 5), "A");
        due("common of NODES", x.common(0, 1, 2, 0, 5), 1);
        due("common, not PLAIN", x.common(5, 0, 0, 0, 5), STATE);
        due("common, not PLAIN", x.common(0, 0, 5, 0, 5), STATE);
        due("common(0, 9, 1, 0, 5)", x.common(0, 9, 1, 0, 5), UNKNOWN);
        due("common(0, 0, 1, 5, 5)", x.common(0, 0, 1, 5, 5), UNKNOWN);
        due("common(0, 0, 1, 0, 6)", x.common(0, 0, 1, 0, 6), UNKNOWN);
        due("common(0, 0, 4, 0, 5), empty", x.common(0, 0, 4, 0, 5), UNKNOWN);
        due("common(-1, 0, 1, 0, 5)", x.common(-1, 0, 1, 0, 5), UNKNOWN);
        due("common(5, 0, 1, 9, 5)", x.common(5, 0, 1, 9, 5), UNKNOWN);
        due("text", text(x, 5), "A");
        // one HOLE needs both TREES ALIKE
        TreeHands v = with("f(aab)", "f(cdc)");
        due("common", v.common(0, 0, 1, 0, 2), 3);
        due("text", text(v, 2), "f(ABC)");
        // the same two TREES the other way round are not the same
        TreeHands y = with("f(aba)", "f(bab)", "x(abcdefghi)", "x(bcdefghij)", "x(abcdefgha)", "x(bcdefghib)");
        due("common", y.common(0, 0, 1, 0, 0), 2);
        due("text, into itself", text(y, 0), "f(ABA)");
        due("common, 9 HOLES", y.common(2, 0, 3, 0, 1), NO);
        due("text", text(y, 1), "f(bab)");
        due("common, 8 HOLES", y.common(4, 0, 5, 0, 1), 8);
        due("text", text(y, 1), "x(ABCDEFGHA)");
        // a TREE with a HOLE is not PLAIN, though the NODE asked for has none
        TreeHands z = with("f(Ab)", "b");
        due("common, a HOLE elsewhere", z.common(0, 2, 1, 0, 5), STATE);
    }

    private static void twice() {
        TreeHands x = with("f(g(ab)h(g(ab)a)b)", "f(abc)", "f(g(a)g(b)g(b)g(a))", "a", "f(AbA)");
        due("twice(0, 0)", x.twice(0, 0), 3);
        due("twice(0, 1)", x.twice(0, 1), 1);
        due("twice(0, 2)", x.twice(0, 2), 5);
        for (int w = 0; w < 3; w++) due("twice(1, " + w + ")", x.twice(1, w), NONE);
        due("twice(2, 0)", x.twice(2, 0), 2);
        due("twice(2, 1)", x.twice(2, 1), 1);
        due("twice(2, 2)", x.twice(2, 2), 7);
        due("twice(3, 0)", x.twice(3, 0), NONE);
        due("twice(4, 0)", x.twice(4, 0), 1);
        due("twice(4, 1)", x.twice(4, 1), 1);
        due("twice(4, 2)", x.twice(4, 2), 3);
        put(x, 1, "a(aaa)");
        due("twice(1, 0)", x.twice(1, 0), 1);
        due("twice(1, 1)", x.twice(1, 1), 1);
        due("twice(1, 2)", x.twice(1, 2), 2);
        due("twice(0, 3)", x.twice(0, 3), OUTSIDE);
        due("twice(0, -1)", x.twice(0, -1), OUTSIDE);
        due("twice(5, 0), empty", x.twice(5, 0), UNKNOWN);
        due("twice(5, 3), empty", x.twice(5, 3), UNKNOWN);
        due("twice(6, 0)", x.twice(6, 0), UNKNOWN);
        due("twice(-1, 0)", x.twice(-1, 0), UNKNOWN);
        put(x, 1, CHAIN16);
        due("twice of a chain", x.twice(1, 0), NONE);
    }

    // ---- 4 rules

    private static void rule() {
        TreeHands x = with("f(AB)", "g(BA)", "A", "f(C)", "a");
        due("rule(0, 1)", x.rule(0, 1), 0);
        due("rule(0, 2)", x.rule(0, 2), 1);
        due("rule(0, 4)", x.rule(0, 4), 2);
        due("rule(2, 4), left is a HOLE", x.rule(2, 4), NO);
        due("rule(2, 2), left is a HOLE", x.rule(2, 2), NO);
        due("rule(0, 3), another HOLE", x.rule(0, 3), NO);
        due("rule(4, 2), another HOLE", x.rule(4, 2), NO);
        due("rule(0, 5), empty", x.rule(0, 5), UNKNOWN);
        due("rule(5, 0), empty", x.rule(5, 0), UNKNOWN);
        due("rule(6, 0)", x.rule(6, 0), UNKNOWN);
        due("rule(0, -1)", x.rule(0, -1), UNKNOWN);
        due("told(1)", x.told(1), 3);
        due("rule(4, 4)", x.rule(4, 4), 3);
        due("rule(3, 3)", x.rule(3, 3), 4);
        due("rule(3, 4)", x.rule(3, 4), 5);
        due("rule(3, 4), full", x.rule(3, 4), FULL);
        due("rule(2, 4), full", x.rule(2, 4), FULL);
        due("rule(2, 5), full", x.rule(2, 5), UNKNOWN);
        due("told(1)", x.told(1), 6);
        // a RULE stays as it was told
        put(x, 0, "z");
        put(x, 5, "f(ab)");
        due("fits(5, 0)", x.fits(5, 0), 7);
    }

    private static void clear() {
        TreeHands x = ruled("a=b", "b=a");
        put(x, 0, "a");
        due("fits", x.fits(0, 0), 1);
        due("overlaps(0)", x.overlaps(0), 0);
        due("clear()", x.clear(), 2);
        due("clear()", x.clear(), 0);
        due("fits", x.fits(0, 0), 0);
        due("told(1)", x.told(1), 0);
        due("make", x.make(0, 0, 0), UNKNOWN);
        due("rule", addRule(x, "a=c"), 0);
        due("make", x.make(0, 0, 0), 1);
        due("text", text(x, 0), "c");
    }

    private static void fits() {
        TreeHands x = ruled("f(AA)=A", "f(AB)=B", "f(aA)=A", "f(A)=A", "f(g(A)A)=A", "f=f");
        put(x, 0, "f(g(a)a)");
        due("fits f(g(a)a)", x.fits(0, 0), 2 + 16);
        due("fits g(a)", x.fits(0, 1), 0);
        put(x, 0, "f(aa)");
        due("fits f(aa)", x.fits(0, 0), 1 + 2 + 4);
        put(x, 0, "f(f(a))");
        due("fits f(f(a))", x.fits(0, 0), 8);
        put(x, 0, "f(f)");
        due("fits f", x.fits(0, 1), 32);
        put(x, 0, "f(f(abc)f(abc))");
        due("fits f(f(abc)f(abc))", x.fits(0, 0), 3);
        due("fits f(abc)", x.fits(0, 1), 0);
        due("fits(0, 9)", x.fits(0, 9), UNKNOWN);
        due("fits(0, -1)", x.fits(0, -1), UNKNOWN);
        due("fits(1, 0), empty", x.fits(1, 0), UNKNOWN);
        due("fits(6, 0)", x.fits(6, 0), UNKNOWN);
        put(x, 0, "f(aA)");
        due("fits, not PLAIN", x.fits(0, 0), STATE);
        due("fits, not PLAIN elsewhere", x.fits(0, 1), STATE);
        due("fits(0, 3), not PLAIN", x.fits(0, 3), UNKNOWN);
        TreeHands y = with("a");
        due("fits without RULES", y.fits(0, 0), 0);
        // eight HOLES
        TreeHands z = ruled("x(ABCDEFGHA)=x(HA)");
        put(z, 0, "x(abcdefgha)");
        due("fits, eight HOLES", z.fits(0, 0), 1);
        put(z, 0, "x(abcdefghi)");
        due("fits not, eight HOLES", z.fits(0, 0), 0);
    }

    private static void make() {
        TreeHands x = ruled("f(AB)=g(BAB)", "g(AAA)=h(A)", "p(A)=A", "a=b");
        put(x, 0, "k(af(p(c)d)e)");
        due("make", x.make(0, 2, 0), 8);
        due("text", text(x, 0), "k(ag(dp(c)d)e)");
        due("node(0, 4, 5)", x.node(0, 4, 5), 2);
        due("make", x.make(0, 4, 2), 7);
        due("text", text(x, 0), "k(ag(dcd)e)");
        due("make, does not FIT", x.make(0, 2, 1), NO);
        due("make, does not FIT", x.make(0, 0, 3), NO);
        due("make", x.make(0, 1, 3), 7);
        due("text", text(x, 0), "k(bg(dcd)e)");
        due("make at NODE 7", x.make(0, 7, 3), UNKNOWN);
        due("make at NODE -1", x.make(0, -1, 3), UNKNOWN);
        due("make RULE 4", x.make(0, 0, 4), UNKNOWN);
        due("make RULE -1", x.make(0, 0, -1), UNKNOWN);
        due("make TREE 6", x.make(6, 0, 0), UNKNOWN);
        due("make, empty", x.make(1, 0, 0), UNKNOWN);
        put(x, 1, "f(Ab)");
        due("make, not PLAIN", x.make(1, 0, 0), STATE);
        due("make, not PLAIN", x.make(1, 2, 0), STATE);
        due("make, RULE 4, not PLAIN", x.make(1, 0, 4), UNKNOWN);
        // 16 NODES go, 17 do not
        put(x, 1, "f(ab(cccc(cc)))");
        due("make, 16", x.make(1, 0, 0), 16);
        due("text", text(x, 1), "g(b(cccc(cc))ab(cccc(cc)))");
        put(x, 1, "f(d(a)b(cccc(cc)))");
        due("make, 17", x.make(1, 0, 0), FULL);
        due("text", text(x, 1), "f(d(a)b(cccc(cc)))");
        TreeHands y = ruled("f(A)=g(AA)", "f(A)=g(AAAAAAAAAAAAAAA)");
        put(y, 0, "f(b(ccccc))");
        due("make, 13", y.make(0, 0, 0), 13);
        put(y, 0, "f(b(cccccc))");
        due("make, 15", y.make(0, 0, 0), 15);
        put(y, 0, "f(b(ccccccc))");
        due("make, 17", y.make(0, 0, 0), FULL);
        due("text", text(y, 0), "f(b(ccccccc))");
        put(y, 0, "f(b)");
        due("make, 16", y.make(0, 0, 1), 16);
        due("text", text(y, 0), "g(bbbbbbbbbbbbbbb)");
        put(y, 0, "f(b(ccccccccccccc(c)))");
        due("make, 16 times 15", y.make(0, 0, 1), FULL);
        put(y, 0, "e(f(b))");
        due("make, 17", y.make(0, 1, 1), FULL);
        // known answers do not outlive it
        put(y, 1, "e(g(bb))");
        due("least", y.least(0, 1), 5);
        due("make", y.make(0, 1, 0), 4);
        due("least", y.least(0, 1), 0);
    }

    private static final String[] COUNTER = {
        "t(o(A))=t(i(A))", "t(i(A))=t(o(k(A)))", "k(o(A))=i(A)", "k(i(A))=o(k(A))"
    };

    private static TreeHands counter(String... more) {
        TreeHands x = ruled(COUNTER);
        for (int r = 0; r < more.length; r++) due("rule", addRule(x, more[r]), 4 + r);
        return x;
    }

    private static void walks(TreeHands x, String from, boolean within, int end, int steps, String to) {
        put(x, 0, from);
        due("walk of " + from, x.walk(0, within), end);
        due("steps of " + from, x.steps(), steps);
        due("end of " + from, text(x, 0), to);
    }

    private static void walk() {
        TreeHands x = ruled("p(zA)=A", "p(s(A)B)=s(p(AB))");
        walks(x, "p(s(s(z))s(z))", true, 0, 3, "s(s(s(z)))");
        walks(x, "q", true, 0, 0, "q");
        // from without and from within go other ways
        TreeHands y = ruled("f(A)=b", "a=f(a)");
        walks(y, "f(a)", false, 0, 1, "b");
        walks(y, "f(a)", true, 2, 14, CHAIN16.replace("a(", "f(").replace("b)", "a)"));
        TreeHands z = ruled("g(A)=h(A)", "a=b", "a=c", "h(b)=d");
        walks(z, "k(g(a)g(a))", false, 0, 6, "k(dd)");
        walks(z, "k(a)", true, 0, 1, "k(b)");
        z.clear();
        addRule(z, "g(A)=A");
        addRule(z, "g(g(A))=x");
        walks(z, "g(g(c))", false, 0, 2, "c");
        z.clear();
        addRule(z, "g(g(A))=x");
        addRule(z, "g(A)=A");
        walks(z, "g(g(c))", false, 0, 1, "x");
        walks(z, "g(g(c))", true, 0, 2, "c");
        walks(z, "g(g(g(c)))", true, 0, 3, "c");
        walks(z, "g(g(g(c)))", false, 0, 1, "x");
        ends();
        TreeHands w = with("f(A)");
        due("walk, not PLAIN", w.walk(0, true), STATE);
        due("walk, empty", w.walk(1, true), UNKNOWN);
        due("walk(6)", w.walk(6, true), UNKNOWN);
        due("walk(-1)", w.walk(-1, false), UNKNOWN);
        due("steps()", w.steps(), NONE);
        put(w, 0, "f(a)");
        due("walk without RULES", w.walk(0, false), 0);
        due("steps()", w.steps(), 0);
        // known answers do not outlive it
        put(y, 1, "b");
        put(y, 0, "f(a)");
        due("least", y.least(0, 1), 5);
        y.walk(0, false);
        due("least", y.least(0, 1), 0);
    }

    private static void ends() {
        walks(ruled("a=a"), "a", true, 1, 1, "a");
        walks(ruled("a=b", "b=a"), "a", false, 1, 2, "a");
        walks(ruled("a=b", "b=c", "c=b"), "a", true, 1, 3, "b");
        walks(ruled("f(AB)=f(BA)"), "f(ab)", true, 1, 2, "f(ab)");
        walks(ruled("f(AB)=f(BA)"), "f(aa)", true, 1, 1, "f(aa)");
        // the 100th step is the last that can be: none FITS then, or one FITS yet
        String[] stops = {"k(z)=y", "o(y)=y"};
        walks(counter(stops), "t(o(i(o(o(i(o(z)))))))", true, 0, 99, "t(y)");
        walks(counter(stops), "t(o(k(o(o(o(i(o(z))))))))", true, 0, 100, "t(y)");
        walks(counter(stops), "t(i(o(o(o(i(o(z)))))))", true, 3, 100, "t(o(y))");
        // it goes round by the 100th step: that is told ahead of 100 steps
        String[] round = {"k(z)=z", "k(y)=z"};
        walks(counter(round), "t(o(k(i(i(i(o(y)))))))", true, 1, 99, "t(o(o(o(o(o(z))))))");
        walks(counter(round), "t(i(i(i(i(o(y))))))", true, 1, 100, "t(o(o(o(o(o(z))))))");
        walks(counter(round), "t(o(i(i(i(o(y))))))", true, 3, 100, "t(o(o(o(o(o(k(z)))))))");
        // it would grow too far by the 101st step: 100 steps are told ahead of that
        String great = "k(z)=z(zzzzzzzzzzzzzzz)";
        walks(counter(great), "t(o(k(i(i(i(o(o(z))))))))", true, 2, 99, "t(o(o(o(o(o(o(k(z))))))))");
        walks(counter(great), "t(i(i(i(i(o(o(z)))))))", true, 3, 100, "t(o(o(o(o(o(o(k(z))))))))");
        // it stops at the first that would grow too far, though another RULE or NODE would do
        walks(ruled("a=z(zzzzzzzzzzzzzzz)", "a=b", "c=d"), "f(ac)", false, 2, 0, "f(ac)");
        walks(ruled("a=c(aa)"), "c(ab)", true, 2, 6, "c(c(c(c(c(c(c(aa)a)a)a)a)a)b)");
        walks(ruled("a=z(zzzzzzzzzzzzzzz)"), "a", false, 0, 1, "z(zzzzzzzzzzzzzzz)");
    }

    private static void steps() {
        TreeHands x = ruled("a=b");
        due("steps()", x.steps(), NONE);
        put(x, 0, "f(aaa)");
        x.overlap(0, 0, 0);
        x.make(0, 1, 0);
        x.walk(1, true);
        due("steps(), no walk yet", x.steps(), NONE);
        x.walk(0, true);
        due("steps()", x.steps(), 2);
        x.walk(0, true);
        due("steps()", x.steps(), 0);
        put(x, 0, "f(aa)");
        x.walk(0, false);
        addRule(x, "f(b)=c");
        addRule(x, "b=c");
        due("overlaps(0)", x.overlaps(0), 1);
        x.walk(6, true);
        x.walk(2, true);
        put(x, 2, "A");
        x.walk(2, true);
        x.clear();
        due("steps(), of the latest by walk()", x.steps(), 2);
    }

    // ---- 5 overlaps

    private static void overlap() {
        TreeHands x = ruled("f(f(A))=A", "f(a)=b", "g(AA)=A", "g(Ah(A))=a");
        due("overlap(0, 0, 0), with itself", x.overlap(0, 0, 0), NO);
        due("overlap(0, 0, 1)", x.overlap(0, 0, 1), 2);
        due("overlap(0, 0, 2), a HOLE", x.overlap(0, 0, 2), NO);
        due("overlap(0, 0, 3)", x.overlap(0, 0, 3), UNKNOWN);
        due("overlap(0, 0, -1)", x.overlap(0, 0, -1), UNKNOWN);
        due("overlap(4, 0, 0)", x.overlap(4, 0, 0), UNKNOWN);
        due("overlap(0, 4, 0)", x.overlap(0, 4, 0), UNKNOWN);
        due("overlap(-1, 0, 0)", x.overlap(-1, 0, 0), UNKNOWN);
        due("overlap(0, -1, 0)", x.overlap(0, -1, 0), UNKNOWN);
        // f(f(a)) is a by the one and f(b) by the other
        due("overlap(0, 1, 1)", x.overlap(0, 1, 1), 1);
        due("overlap(0, 1, 0)", x.overlap(0, 1, 0), 0);
        due("overlap(1, 0, 0)", x.overlap(1, 0, 0), 0);
        due("overlap(1, 0, 1)", x.overlap(1, 0, 1), 0);
        due("overlap(1, 1, 1), a LABEL", x.overlap(1, 1, 1), 0);
        // A would be h(A)
        due("overlap(2, 3, 0)", x.overlap(2, 3, 0), 0);
        due("overlap(3, 2, 0)", x.overlap(3, 2, 0), 0);
        x.clear();
        // the same RULE under two numbers meets itself at NODE 0
        addRule(x, "f(AB)=A");
        addRule(x, "f(AB)=A");
        addRule(x, "f(AB)=B");
        due("overlap(0, 1, 0)", x.overlap(0, 1, 0), 2);
        due("overlap(0, 2, 0), two HOLES are two LABELS", x.overlap(0, 2, 0), 1);
        due("overlap(2, 0, 0)", x.overlap(2, 0, 0), 1);
        // all RULES walk, not these two alone
        x.clear();
        addRule(x, "f(a)=b");
        addRule(x, "f(a)=c");
        due("overlap, b and c", x.overlap(0, 1, 0), 1);
        addRule(x, "b=c");
        due("overlap, b becomes c", x.overlap(0, 1, 0), 2);
        addRule(x, "c=b");
        due("overlap, it goes round", x.overlap(0, 1, 0), 1);
        due("steps()", x.steps(), NONE);
        tooGreat();
    }

    private static void tooGreat() {
        // the PEAK f(AA) with A = g(..): 2 * 7 + 1 and 2 * 8 + 1 NODES
        TreeHands x = ruled("f(AA)=A", "f(g(BCDEFa)G)=G", "f(g(BCDEFab)G)=G");
        due("overlap, PEAK of 15", x.overlap(0, 1, 0), 2);
        due("overlap, PEAK of 17", x.overlap(0, 2, 0), 3);
        // 16 NODES are not too many; what is made of it may be
        TreeHands y = ruled("f(Aabcdefghijklmn)=b", "f(Babcdefghijklmn)=b", "f(Babcdefghijklmn)=g(BBBBBBBBBBBBBB)");
        due("overlap, PEAK of 16", y.overlap(0, 1, 0), 2);
        due("overlap, PEAK of 16", y.overlap(0, 2, 0), 1);
        TreeHands z = ruled("f(AB)=g(AB)", "f(h(AAAAAAA)h(AAAAAA))=c", "f(AB)=g(AAB)", "k(f(AB)A)=k(aa)");
        due("overlap, PEAK of 16", z.overlap(0, 1, 0), 1);
        due("overlap, made of it too great", z.overlap(1, 2, 0), 3);
        due("overlap, made of it too great", z.overlap(2, 1, 0), 3);
        due("overlap, PEAK of 25", z.overlap(3, 1, 1), 3);
        TreeHands u = ruled("f(AB)=c", "f(AB)=c(AAB)", "f(h(aaaaa)h(bb))=c(aa)", "f(h(aaaaa)h(bbb))=c");
        due("overlap, 16 made of it", u.overlap(2, 1, 0), 1);
        due("overlap, 16 made of it", u.overlap(1, 2, 0), 1);
        due("overlap, 17 made of it", u.overlap(3, 1, 0), 3);
        due("overlap, 17 made of it", u.overlap(1, 3, 0), 3);
        // a HOLE put again and again: 37 NODES
        TreeHands w = ruled("f(ABCg(AA)g(BB)g(CC))=a", "f(BCDABC)=a");
        due("overlap, doubled", w.overlap(0, 1, 0), 3);
        due("overlap, doubled", w.overlap(1, 0, 0), 3);
    }

    private static void peak() {
        TreeHands x = ruled("p(p(AB)C)=p(Ap(BC))", "p(s(A)B)=s(p(AB))", "p(zA)=A");
        due("peak(0, 0, 1, 2)", x.peak(0, 0, 1, 2), 7);
        due("text", text(x, 2), "p(p(p(AB)C)D)");
        due("peak(0, 1, 1, 2)", x.peak(0, 1, 1, 2), 6);
        due("text", text(x, 2), "p(p(s(A)B)C)");
        due("peak(0, 2, 1, 4)", x.peak(0, 2, 1, 4), 5);
        due("text", text(x, 4), "p(p(zA)B)");
        due("peak(0, 0, 0, 2)", x.peak(0, 0, 0, 2), NO);
        due("peak(0, 0, 2, 2), a HOLE", x.peak(0, 0, 2, 2), NO);
        due("peak(0, 0, 2, 6), a HOLE", x.peak(0, 0, 2, 6), UNKNOWN);
        due("peak(1, 2, 0, 2), none", x.peak(1, 2, 0, 2), STATE);
        due("peak(1, 2, 0, 6)", x.peak(1, 2, 0, 6), UNKNOWN);
        due("peak(1, 2, 0, -1)", x.peak(1, 2, 0, -1), UNKNOWN);
        due("peak(3, 0, 0, 2)", x.peak(3, 0, 0, 2), UNKNOWN);
        due("peak(0, 3, 0, 2)", x.peak(0, 3, 0, 2), UNKNOWN);
        due("peak(0, 0, 5, 2)", x.peak(0, 0, 5, 2), UNKNOWN);
        due("peak(0, 0, -1, 2)", x.peak(0, 0, -1, 2), UNKNOWN);
        due("text", text(x, 2), "p(p(s(A)B)C)");
        due("told(22)", x.told(22), 3);
        // HOLES held for different, and one put for the other
        TreeHands y = ruled("f(AA)=A", "f(g(A)B)=A", "f(AB)=B");
        due("peak(0, 1, 0, 0)", y.peak(0, 1, 0, 0), 5);
        due("text", text(y, 0), "f(g(A)g(A))");
        due("peak(0, 2, 0, 0)", y.peak(0, 2, 0, 0), 3);
        due("text", text(y, 0), "f(AA)");
        due("peak(1, 2, 0, 0)", y.peak(1, 2, 0, 0), 4);
        due("text", text(y, 0), "f(g(A)B)");
        // a HOLE is never put a TREE with itself within
        TreeHands z = ruled("f(AA)=A", "f(g(A)A)=A", "f(Ag(A))=A", "f(AB)=h(AB)");
        due("peak(0, 1, 0, 0)", z.peak(0, 1, 0, 0), STATE);
        due("peak(1, 2, 0, 0)", z.peak(1, 2, 0, 0), STATE);
        due("peak(1, 3, 0, 0)", z.peak(1, 3, 0, 0), 4);
        // eight HOLES go, nine do not; nine are no hindrance to overlap
        TreeHands w = ruled("f(g(ABCDEFGH)a)=a", "g(ABCDEFGH)=b");
        due("peak, 8 HOLES", w.peak(0, 1, 1, 0), 11);
        due("text", text(w, 0), "f(g(ABCDEFGH)a)");
        TreeHands v = ruled("f(Ag(B))=a", "g(h(ABCDEFGH))=b", "g(h(ABCDEFG))=b", "f(aa)=a", "f(ab)=a");
        due("peak, 9 HOLES", v.peak(0, 1, 2, 0), FULL);
        due("overlap, 9 HOLES", v.overlap(0, 1, 2), 1);
        due("peak, 8 HOLES", v.peak(0, 2, 2, 0), 11);
        due("text", text(v, 0), "f(Ag(h(BCDEFGH)))");
        due("peak into 0 stays", v.peak(0, 1, 2, 0), FULL);
        due("text", text(v, 0), "f(Ag(h(BCDEFGH)))");
        // 16 NODES go, 17 do not
        TreeHands u = ruled("f(AA)=A", "f(g(BCDEFa)G)=G", "f(g(BCDEFab)G)=G", "f(g(aaaaaa)A)=b", "f(Ah(A))=A", "f(g(aaaab)B)=B");
        due("peak, 15", u.peak(0, 1, 0, 0), 15);
        due("peak, 17", u.peak(0, 2, 0, 0), FULL);
        due("text", text(u, 0), "f(g(ABCDEa)g(ABCDEa))");
        due("peak, 14", u.peak(4, 5, 0, 0), 14);
        due("peak, 16", u.peak(4, 3, 0, 0), 16);
        due("text", text(u, 0), "f(g(aaaaaa)h(g(aaaaaa)))");
        // known answers do not outlive it
        due("least", u.least(0, 0), 0);
        u.take(0, 1, 1);
        u.least(0, 1);
        u.peak(0, 1, 0, 1);
        due("least", u.least(1, 1), 0);
        due("least", u.least(0, 1) > 0 ? 1 : 0, 1);
    }

    private static void overlaps() {
        TreeHands x = ruled("f(f(A))=A", "f(a)=b");
        // f(f(f(A))) at NODE 1 meets; f(f(a)) at NODE 1 does not
        int[] want = {2, 1, 1, 0};
        for (int w = 0; w < 4; w++) due("overlaps(" + w + ")", x.overlaps(w), want[w]);
        addRule(x, "f(b)=a");
        // f(f(b)): b and f(a); and f(f(a)): a and f(b) meet now
        want = new int[] {3, 3, 0, 0};
        for (int w = 0; w < 4; w++) due("overlaps(" + w + ")", x.overlaps(w), want[w]);
        due("overlaps(4)", x.overlaps(4), OUTSIDE);
        due("overlaps(-1)", x.overlaps(-1), OUTSIDE);
        x.clear();
        for (int w = 0; w < 4; w++) due("overlaps(" + w + "), cleared", x.overlaps(w), 0);
        // at NODE 0 both ways count
        addRule(x, "a=b");
        addRule(x, "a=c");
        want = new int[] {2, 0, 2, 0};
        for (int w = 0; w < 4; w++) due("overlaps(" + w + ")", x.overlaps(w), want[w]);
        TreeHands y = ruled("f(AA)=A", "f(g(BCDEFab)G)=G", "f(AB)=B");
        // 0-1 and 1-0 are too great; 0-2, 2-0, 1-2, 2-1 meet
        want = new int[] {6, 4, 0, 2};
        for (int w = 0; w < 4; w++) due("overlaps(" + w + ")", y.overlaps(w), want[w]);
    }

    private static void told() {
        TreeHands x = with("f(ABA)", "a", "H");
        sayAll(x, "abc");
        due("told(0)", x.told(0), 3);
        due("told(1)", x.told(1), 0);
        due("rule", x.rule(0, 1), 0);
        due("told(1)", x.told(1), 1);
        int[] nodes = {4, 1, 1, 0, 0, 0};
        int[] holes = {2, 0, 1, 0, 0, 0};
        for (int t = 0; t < 6; t++) {
            due("told(1" + t + ")", x.told(10 + t), nodes[t]);
            due("told(2" + t + ")", x.told(20 + t), holes[t]);
        }
        for (int w : new int[] {-1, 2, 9, 16, 19, 26, LEAST_INT, LEAST_INT + 5, LEAST_INT + 15, GREATEST_INT}) {
            due("told(" + w + ")", x.told(w), OUTSIDE);
        }
        put(x, 5, "x(ABCDEFGHHGFEDCB)");
        due("told(15)", x.told(15), 16);
        due("told(25)", x.told(25), 8);
    }
}

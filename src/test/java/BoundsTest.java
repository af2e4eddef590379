/**
 * Each sentence of the document that names a bound (too small, too great, empty, full, refused), with a run of its
 * own: the last number that is allowed and the first that is not, at both ends; what two refusals fit; and that a
 * refused call changes nothing.
 */
public final class BoundsTest {
    private static final int NONE = -6, UNKNOWN = -1, OUTSIDE = -2, STATE = -3, FULL = -4, NO = -5;

    private static final String LABELS = "abcdefghijklmnopqrstuvwxyz";
    private static final String HOLES = "ABCDEFGH";
    private static final String CHAIN16 = "a(a(a(a(a(a(a(a(a(a(a(a(a(a(a(b)))))))))))))))";
    private static final String FLAT16 = "a(bcdefghijklmnop)";
    private static final String NO_TREES = "-1 6 MIN MAX 65536";

    private interface Setup { void on(Hands h); }

    public static void main(String[] args) {
        Runnable[] all = {
            BoundsTest::calls, BoundsTest::aNewObject, BoundsTest::say, BoundsTest::wipe, BoundsTest::fault,
            BoundsTest::faultByAllSigns, BoundsTest::read, BoundsTest::node, BoundsTest::sign, BoundsTest::take,
            BoundsTest::alike, BoundsTest::price, BoundsTest::least, BoundsTest::led, BoundsTest::edits,
            BoundsTest::moved, BoundsTest::movedOnly, BoundsTest::leastAnew, BoundsTest::common, BoundsTest::twice, BoundsTest::rule, BoundsTest::clear,
            BoundsTest::fits, BoundsTest::make, BoundsTest::walk, BoundsTest::walkEnds, BoundsTest::steps,
            BoundsTest::nodesOfWhatCame, BoundsTest::overlap, BoundsTest::overlapTooGreat, BoundsTest::meets, BoundsTest::peak,
            BoundsTest::peakFull, BoundsTest::overlapInTurn, BoundsTest::overlaps, BoundsTest::told
        };
        for (Runnable one : all) one.run();
        int wrong = Hands.wrong;
        System.out.println(wrong == 0 ? "BoundsTest: all bounds hold, " + trials + " refusals change nothing"
            : "BoundsTest: " + wrong + " wrong");
        if (wrong != 0) System.exit(1);
    }

    // ---- helpers

    private static int trials = 0;

    private static void sentence(String text) { Hands.sentence = text; }

    /** The call is refused, and behind it the object is as one that was never asked. */
    private static void refused(Setup setup, String call, int want) {
        trials++;
        Hands asked = new Hands();
        Hands other = new Hands();
        setup.on(asked);
        setup.on(other);
        asked.due(call, want);
        String got = asked.state();
        String due = other.state();
        if (!got.equals(due)) {
            Hands.wrong++;
            System.out.println(Hands.sentence + ": " + call + " is refused, yet it is " + got + ", and was " + due);
        }
    }

    /** For # in the call each of the words. */
    private static void refusedEach(Setup setup, String call, String words, int want) {
        for (String word : words.split(" ")) refused(setup, call.replace("#", word), want);
    }

    /** Something of all: PAD m(nC); TREE 3 is empty, 1 and 4 are not PLAIN; 3 RULES, a WALK of one step, other PRICES. */
    private static void room(Hands h) {
        h.put(0, "f(g(ab)g(ab)c)").put(1, "f(AbB)").put(2, "f(cg(ab))");
        h.rules("f(AAB)=h(BA)", "g(AB)=k(BA)", "g(aA)=A");
        h.put(5, "g(ac)").due("walk(5, true)", 0).put(4, "A");
        h.due("price(0, 4)", 3).due("price(1, 5)", 3).due("price(2, 1)", 2);
        h.say("m(nC)");
    }

    private static String repeat(String text, int times) { return text.repeat(times); }

    // ---- the object

    private static void calls() {
        sentence("An object is used for at most 512 calls after it has been made");
        Hands h = Hands.with("f(ab)", "f(b)");
        while (h.calls() < Hands.MOST_CALLS - 1) h.due("node(0, 2, 0)", 'b');
        h.due("least(0, 1)", 3);
        Hands w = Hands.ruled("a=b").put(0, "c(a)");
        while (w.calls() < Hands.MOST_CALLS - 2) w.due("fits(0, 1)", 1);
        w.due("walk(0, true)", 0).due("steps()", 1);
        Hands s = new Hands();
        for (int n = 1; n <= Hands.MOST_CALLS; n++) s.due("say(97)", n > 60 ? FULL : n);
    }

    private static void aNewObject() {
        sentence("1: PAD is empty");
        new Hands().due("told(0)", 0).due("fault()", 0).due("wipe()", 0).due("read(0)", NO);
        sentence("1: TREES are, too");
        for (int t = 0; t < 6; t++) {
            Hands h = new Hands().due("told(1" + t + ")", 0).due("told(2" + t + ")", 0).due("sign(" + t + ", -1)", UNKNOWN);
            h.due("node(" + t + ", 0, 0)", UNKNOWN).due("twice(" + t + ", 0)", UNKNOWN).due("walk(" + t + ", true)", UNKNOWN);
            h.due("least(" + t + ", " + t + ")", UNKNOWN).due("rule(" + t + ", " + t + ")", UNKNOWN);
        }
        sentence("1: no RULES");
        Hands h = Hands.with("a").due("told(1)", 0).due("fits(0, 0)", 0).due("overlap(0, 0, 0)", UNKNOWN);
        for (int w = 0; w < 4; w++) h.due("overlaps(" + w + ")", 0);
        h.due("make(0, 0, 0)", UNKNOWN).due("peak(0, 0, 0, 0)", UNKNOWN).due("clear()", 0);
        sentence("0 DROP (3 at first), 1 ADD (3), 2 RENAME (2)");
        new Hands().due("price(0, 0)", 3).due("price(1, 0)", 3).due("price(2, 0)", 2);
        sentence("22: NONE: there was none");
        new Hands().due("steps()", NONE);
    }

    // ---- 1 trees

    private static void say() {
        sentence("signs (codes 33 to 126)");
        for (int code = -3; code < 300; code++) {
            boolean is = code >= 33 && code <= 126;
            new Hands().due("say(" + code + ")", is ? 1 : OUTSIDE).due("told(0)", is ? 1 : 0);
        }
        sentence("2: OUTSIDE");
        refusedEach(BoundsTest::room, "say(#)", "32 127 0 -1 MIN MAX 353 65633", OUTSIDE);
        sentence("2: 60 at most; FULL");
        Setup sixty = h -> h.say("a(" + repeat("b", 57) + ")");
        Hands h = new Hands();
        for (int n = 1; n <= 60; n++) h.due("say(98)", n);
        h.due("say(98)", FULL).due("told(0)", 60);
        // the last sign that was said stays the last, so there is no FAULT
        refusedEach(sixty, "say(#)", "33 98 40 41 126", FULL);
        h = new Hands();
        sixty.on(h);
        h.due("say(98)", FULL).due("fault()", NONE);
        sentence("2: OUTSIDE is ahead of FULL");
        refusedEach(sixty, "say(#)", "32 127 MIN MAX", OUTSIDE);
        sentence("2: 60 again when signs have gone");
        h.due("wipe()", 60);
        for (int n = 1; n <= 60; n++) h.due("say(126)", n);
        h.due("say(126)", FULL);
    }

    private static void wipe() {
        sentence("3: how many there were");
        new Hands().due("wipe()", 0).due("wipe()", 0);
        new Hands().say("~").due("wipe()", 1).due("wipe()", 0).due("told(0)", 0).due("fault()", 0);
        new Hands().say(repeat("(", 60)).due("wipe()", 60).due("wipe()", 0);
        sentence("3: signs go, and nothing else");
        Hands one = new Hands();
        Hands two = new Hands();
        room(one);
        one.due("wipe()", 5);
        room(two);
        two.due("read(3)", 3);
        for (int t : new int[] {0, 1, 2, 4, 5}) one.dueText(t, two.text(t));
        one.due("told(1)", 3).due("steps()", 1).due("price(0, 0)", 4).due("told(13)", 0).due("say(97)", 1);
    }

    private static void faultAt(String signs, int want) {
        new Hands().say(signs).due("fault()", want).due("fault()", want).due("told(0)", signs.length());
    }

    private static void fault() {
        sentence("THE FAULT: the first place (from 0 on)");
        faultAt(")", 0);
        faultAt("!!", 0);
        faultAt("a!", 1);
        faultAt("a!!", 1);
        faultAt("a(b))!", 4);
        faultAt("(" + repeat("a", 59), 0);
        faultAt("a(" + repeat("b", 57) + "!", 59);
        faultAt("a(" + repeat("b", 56) + ")b", 59);
        faultAt(repeat("a(", 29) + "a(", 60);
        sentence("behind the last sign: their number");
        faultAt("", 0);
        faultAt("a(", 2);
        faultAt("a(b", 3);
        faultAt("a(b(c)", 6);
        faultAt("a(" + repeat("b", 58), 60);
        faultAt(repeat("a(", 30), 60);
        sentence("4: NONE");
        faultAt("a", NONE);
        faultAt("A", NONE);
        faultAt("a(A)", NONE);
        faultAt("a(" + repeat("b", 57) + ")", NONE);
        faultAt(repeat("a(", 19) + "a" + repeat(")", 19), NONE);
        sentence("how many NODES it has does not matter for that");
        faultAt("a(" + repeat("b", 15) + ")", NONE);
        faultAt("a(" + repeat("b", 16) + ")", NONE);
        faultAt("a(" + repeat("b", 16), 18);
        faultAt("a(" + repeat("b", 16) + "!", 18);
        sentence("a LABEL with ( one or more TREES ) behind it");
        faultAt("a()", 2);
        faultAt("a(b())", 4);
        faultAt("a(b)", NONE);
        faultAt("a(bb)", NONE);
        faultAt("a((b))", 2);
        faultAt("a(b)(c)", 4);
        faultAt("A(b)", 1);
        faultAt("a(A(b))", 3);
        faultAt("aa", 1);
    }

    /** Behind what is written, each sign there is: where it can come, what comes then is due at the next place. */
    private static void faultByAllSigns() {
        sentence("a LABEL (a to z), or a HOLE (A to H)");
        for (int code = 33; code <= 126; code++) {
            char c = (char) code;
            boolean starts = LABELS.indexOf(c) >= 0 || HOLES.indexOf(c) >= 0;
            boolean label = LABELS.indexOf(c) >= 0;
            faultAt("" + c, starts ? NONE : 0);
            faultAt("a(" + c, starts ? 3 : 2);
            faultAt("a(" + c + ")", starts ? NONE : 2);
            faultAt(c + "(b)", label ? NONE : starts ? 1 : 0);
            faultAt("a" + c, c == '(' ? 2 : 1);
            faultAt("A" + c, 1);
            faultAt("a(b" + c, c == ')' ? NONE : starts || c == '(' ? 4 : 3);
            faultAt("a(B" + c, c == ')' ? NONE : starts ? 4 : 3);
            faultAt("a(b)" + c, 4);
            faultAt("a(b(c)" + c, c == ')' ? NONE : starts ? 7 : 6);
            faultAt("a(b(c))" + c, 7);
        }
    }

    private static void read() {
        sentence("5: A TREE becomes what is on the PAD (it is empty then): NODES");
        for (int t = 0; t < 6; t++) {
            Hands h = new Hands().say("a(bC)").due("read(" + t + ")", 3).due("told(0)", 0).dueText(t, "a(bC)");
            for (int u = 0; u < 6; u++) h.due("told(1" + u + ")", u == t ? 3 : 0);
            h.due("read(" + t + ")", NO).dueText(t, "a(bC)");
        }
        Hands.with("a").dueText(0, "a").put(0, CHAIN16).dueText(0, CHAIN16).put(0, "H").dueText(0, "H").due("told(10)", 1);
        sentence("TREES 0 to 5; 5: UNKNOWN");
        refusedEach(BoundsTest::room, "read(#)", NO_TREES, UNKNOWN);
        sentence("16 NODES at most; 5: FULL: more than 16 NODES");
        new Hands().say("a(" + repeat("b", 15) + ")").due("read(0)", 16).due("told(10)", 16);
        new Hands().say(CHAIN16).due("read(5)", 16).due("told(15)", 16);
        Setup seventeen = h -> { room(h); h.due("wipe()", 5); h.say("a(" + repeat("b", 16) + ")"); };
        refusedEach(seventeen, "read(#)", "0 3 5", FULL);
        Setup deep = h -> h.put(0, "c").say("a(" + CHAIN16 + ")");
        refused(deep, "read(0)", FULL);
        refused(h -> h.put(0, "c").say("a(" + repeat("b", 57) + ")"), "read(0)", FULL);
        sentence("5: NO: there is a FAULT");
        for (String pad : new String[] {"", "a(", "a(b", "!", "ab", "I", "A(b)", "a()", "a(b))", repeat("a(", 30)}) {
            refusedEach(h -> h.put(0, "c").say(pad), "read(#)", "0 5", NO);
        }
        sentence("5: NO is ahead of FULL");
        refused(h -> h.put(0, "c").say("a(" + repeat("b", 16)), "read(0)", NO);
        refused(h -> h.put(0, "c").say(repeat("b", 17)), "read(0)", NO);
        refused(h -> h.put(0, "c").say("a(" + repeat("b", 16) + "))"), "read(0)", NO);
        sentence("5: UNKNOWN is ahead of FULL and of NO");
        refusedEach(seventeen, "read(#)", NO_TREES, UNKNOWN);
        refusedEach(h -> h.put(0, "c").say("a("), "read(#)", NO_TREES, UNKNOWN);
        refusedEach(h -> h.put(0, "c"), "read(#)", NO_TREES, UNKNOWN);
    }

    private static void node() {
        sentence("6: 0 its LABEL (sign)");
        Hands.with("a(zAH)").due("node(0, 0, 0)", 'a').due("node(0, 1, 0)", 'z').due("node(0, 2, 0)", 'A').due("node(0, 3, 0)", 'H');
        sentence("6: 1 the NODE whose PART it is (NONE), 2 which PART (NONE)");
        Hands h = Hands.with(CHAIN16, FLAT16, "a");
        for (int t = 0; t < 3; t++) h.due("node(" + t + ", 0, 1)", NONE).due("node(" + t + ", 0, 2)", NONE);
        h.due("node(0, 1, 1)", 0).due("node(0, 1, 2)", 0).due("node(0, 15, 1)", 14).due("node(0, 15, 2)", 0);
        h.due("node(1, 1, 1)", 0).due("node(1, 1, 2)", 0).due("node(1, 15, 1)", 0).due("node(1, 15, 2)", 14);
        sentence("6: 3 how many PARTS");
        h.due("node(0, 0, 3)", 1).due("node(0, 15, 3)", 0).due("node(1, 0, 3)", 15).due("node(1, 1, 3)", 0).due("node(2, 0, 3)", 0);
        sentence("6: 4 SIZE: NODES of its TREE, it too");
        h.due("node(0, 0, 4)", 16).due("node(0, 15, 4)", 1).due("node(0, 14, 4)", 2).due("node(1, 0, 4)", 16).due("node(2, 0, 4)", 1);
        sentence("6: 5 how deep (0: NODE 0)");
        h.due("node(0, 0, 5)", 0).due("node(0, 1, 5)", 1).due("node(0, 15, 5)", 15).due("node(1, 15, 5)", 1).due("node(2, 0, 5)", 0);
        sentence("6: UNKNOWN");
        refusedEach(BoundsTest::room, "node(#, 0, 0)", NO_TREES + " 3", UNKNOWN);
        refusedEach(BoundsTest::room, "node(0, #, 0)", "-1 8 15 16 MIN MAX", UNKNOWN);
        Setup full = x -> x.put(0, FLAT16).put(2, "a");
        refusedEach(full, "node(0, #, 0)", "-1 16 17 MIN MAX", UNKNOWN);
        refusedEach(full, "node(2, #, 0)", "-1 1 MIN MAX", UNKNOWN);
        sentence("6: OUTSIDE");
        refusedEach(BoundsTest::room, "node(0, 0, #)", "-1 6 MIN MAX", OUTSIDE);
        refusedEach(BoundsTest::room, "node(0, 7, #)", "-1 6 MIN MAX", OUTSIDE);
        sentence("6: UNKNOWN is ahead of OUTSIDE");
        refusedEach(BoundsTest::room, "node(#, 0, 6)", NO_TREES + " 3", UNKNOWN);
        refusedEach(BoundsTest::room, "node(0, #, -1)", "-1 8 MIN MAX", UNKNOWN);
        refused(BoundsTest::room, "node(MAX, MAX, MAX)", UNKNOWN);
        refused(BoundsTest::room, "node(MIN, MIN, MIN)", UNKNOWN);
    }

    private static void sign() {
        sentence("7: Sign i of a TREE as it is written; NONE");
        Hands h = Hands.with("a", CHAIN16, "a(b(cD)e)");
        h.due("sign(0, 0)", 'a').due("sign(0, 1)", NONE).due("sign(1, 0)", 'a').due("sign(1, 45)", ')').due("sign(1, 46)", NONE);
        h.due("sign(2, 8)", ')').due("sign(2, 9)", NONE).due("sign(2, 60)", NONE).due("sign(2, MAX)", NONE);
        h.due("sign(2, -2)", NONE).due("sign(2, MIN)", NONE).dueText(2, "a(b(cD)e)").dueText(1, CHAIN16);
        sentence("7: i = -1: how many");
        h.due("sign(0, -1)", 1).due("sign(1, -1)", 46).due("sign(2, -1)", 9);
        sentence("7: UNKNOWN: also it is empty");
        for (String i : new String[] {"0", "-1", "-2", "MIN", "MAX"}) {
            refusedEach(BoundsTest::room, "sign(#, " + i + ")", NO_TREES + " 3", UNKNOWN);
        }
    }

    private static void take() {
        sentence("8: TREE u becomes NODE i's TREE of t: NODES");
        Hands h = Hands.with(CHAIN16, "f(g(aB)h)");
        h.due("take(0, 0, 5)", 16).dueText(5, CHAIN16).due("take(0, 15, 5)", 1).dueText(5, "b").due("node(5, 0, 5)", 0);
        h.due("take(1, 1, 3)", 3).dueText(3, "g(aB)").due("node(3, 0, 1)", NONE).due("node(3, 0, 2)", NONE).due("take(1, 4, 3)", 1);
        h.dueText(3, "h").dueText(1, "f(g(aB)h)");
        sentence("8: u may be t");
        h.due("take(1, 0, 1)", 5).dueText(1, "f(g(aB)h)").due("take(1, 1, 1)", 3).dueText(1, "g(aB)").due("take(1, 2, 1)", 1).dueText(1, "B");
        sentence("8: UNKNOWN");
        refusedEach(BoundsTest::room, "take(#, 0, 0)", NO_TREES + " 3", UNKNOWN);
        refusedEach(BoundsTest::room, "take(0, #, 1)", "-1 8 MIN MAX", UNKNOWN);
        refusedEach(BoundsTest::room, "take(0, 0, #)", NO_TREES, UNKNOWN);
        refusedEach(BoundsTest::room, "take(0, 7, #)", NO_TREES, UNKNOWN);
        refused(BoundsTest::room, "take(3, 0, 3)", UNKNOWN);
    }

    private static void alike() {
        sentence("9: Whether two NODES are ALIKE: 1, 0");
        Hands h = Hands.with(CHAIN16, CHAIN16, "a(b)", "a(c)", "a(bb)", "A");
        h.due("alike(0, 0, 1, 0)", 1).due("alike(0, 15, 1, 15)", 1).due("alike(0, 14, 2, 0)", 1).due("alike(0, 0, 1, 1)", 0);
        h.due("alike(2, 0, 3, 0)", 0).due("alike(2, 0, 4, 0)", 0).due("alike(4, 0, 2, 0)", 0).due("alike(4, 1, 4, 2)", 1);
        h.due("alike(5, 0, 5, 0)", 1).due("alike(5, 0, 2, 1)", 0);
        h.put(5, "a(b(b)b)").put(4, "a(bb(b))").due("alike(5, 0, 4, 0)", 0).due("alike(4, 2, 5, 1)", 1);
        sentence("9: UNKNOWN");
        refusedEach(BoundsTest::room, "alike(#, 0, 0, 0)", NO_TREES + " 3", UNKNOWN);
        refusedEach(BoundsTest::room, "alike(0, #, 0, 0)", "-1 8 MIN MAX", UNKNOWN);
        refusedEach(BoundsTest::room, "alike(0, 0, #, 0)", NO_TREES + " 3", UNKNOWN);
        refusedEach(BoundsTest::room, "alike(0, 0, 2, #)", "-1 5 MIN MAX", UNKNOWN);
        refused(BoundsTest::room, "alike(3, 0, 3, 0)", UNKNOWN);
    }

    // ---- 2 edits

    private static void price() {
        sentence("PRICES (0 to 9); 10: which it was");
        for (int w = 0; w < 3; w++) {
            Hands h = new Hands().due("price(" + w + ", 0)", w == 2 ? 2 : 3);
            for (int v = 1; v <= 9; v++) h.due("price(" + w + ", " + v + ")", v - 1);
            h.due("price(" + w + ", 9)", 9).due("price(" + w + ", 0)", 9).due("price(" + w + ", 0)", 0);
            for (int o = 0; o < 3; o++) if (o != w) h.due("price(" + o + ", 0)", o == 2 ? 2 : 3);
        }
        sentence("10: OUTSIDE");
        refusedEach(BoundsTest::room, "price(#, 0)", "-1 3 MIN MAX", OUTSIDE);
        refusedEach(BoundsTest::room, "price(0, #)", "-1 10 MIN MAX", OUTSIDE);
        refusedEach(BoundsTest::room, "price(1, #)", "-1 10 MIN MAX", OUTSIDE);
        refusedEach(BoundsTest::room, "price(2, #)", "-1 10 MIN MAX", OUTSIDE);
        refused(BoundsTest::room, "price(3, 10)", OUTSIDE);
        sentence("each PRICE counts for its own kind of edit");
        Hands h = Hands.with("a(b)", "a", "b").due("price(0, 9)", 3).due("least(0, 1)", 9).due("least(1, 0)", 3).due("least(1, 2)", 2);
        h.due("price(1, 7)", 3).due("least(1, 0)", 7).due("least(0, 1)", 9).due("price(2, 5)", 2).due("least(1, 2)", 5);
        h.due("least(2, 1)", 5).due("price(2, 9)", 5).due("price(0, 3)", 9).due("price(1, 5)", 7).due("least(1, 2)", 8);
    }

    private static void least() {
        sentence("11: PRICE of THE LEAST, from nothing to all that can be");
        Hands h = Hands.with("a", "z", CHAIN16, FLAT16, "z(zzzzzzzzzzzzzzz)", "A");
        h.due("least(0, 0)", 0).due("least(0, 1)", 2).due("least(0, 5)", 2).due("least(2, 2)", 0).due("least(2, 0)", 45);
        h.due("least(0, 2)", 45).due("least(0, 4)", 47).due("price(0, 9)", 3).due("price(1, 9)", 3).due("price(2, 9)", 2);
        // NODE 0 and one within it can be led, the other 14 of both not
        h.due("least(2, 4)", 2 * 9 + 14 * 18).due("least(3, 4)", 16 * 9).due("least(4, 3)", 16 * 9).due("least(0, 1)", 9);
        h.due("price(0, 0)", 9).due("price(1, 0)", 9).due("least(2, 4)", 0).due("least(3, 4)", 0);
        h.due("price(0, 9)", 0).due("least(0, 1)", 9).due("price(2, 0)", 9).due("least(3, 4)", 0).due("least(0, 1)", 0);
        sentence("11: UNKNOWN: also one is empty");
        refusedEach(BoundsTest::room, "least(#, 0)", NO_TREES + " 3", UNKNOWN);
        refusedEach(BoundsTest::room, "least(0, #)", NO_TREES + " 3", UNKNOWN);
        refused(BoundsTest::room, "least(3, 3)", UNKNOWN);
        sentence("HOLES are LABELS here");
        Hands.with("A", "B", "a").due("least(0, 0)", 0).due("least(0, 1)", 2).due("least(0, 2)", 2).due("least(2, 0)", 2);
        sentence("of two led ones the first lies within the second just if their partners do");
        // b can't stay within c, nor b and c stay beside each other
        Hands.with("a(c(b))", "a(bc)").due("least(0, 1)", 6).due("least(1, 0)", 6);
        sentence("and else is ahead of it (as written) just if they are");
        Hands.with("a(bc)", "a(cb)").due("price(2, 9)", 2).due("least(0, 1)", 6);
    }

    private static void dueRow(Hands h, int s, int t, int... row) {
        for (int i = 0; i < row.length; i++) h.due("led(" + s + ", " + t + ", " + i + ")", row[i]);
        h.due("led(" + s + ", " + t + ", " + row.length + ")", UNKNOWN).due("led(" + s + ", " + t + ", -1)", UNKNOWN);
    }

    private static void led() {
        sentence("12: Partner of NODE i of s by THE LEAST");
        Hands h = Hands.with(FLAT16, FLAT16, "a", "z(a)");
        dueRow(h, 0, 1, 0, 1, 2, 3, 4, 5, 6, 7, 8, 9, 10, 11, 12, 13, 14, 15);
        dueRow(h, 2, 3, 1);
        sentence("12: 99 without one");
        dueRow(h, 0, 2, 0, 99, 99, 99, 99, 99, 99, 99, 99, 99, 99, 99, 99, 99, 99, 99);
        dueRow(h, 3, 2, 99, 0);
        h.due("price(2, 9)", 2).put(4, "b").put(5, "c");
        dueRow(h, 4, 5, 99);
        sentence("of several the first by rows; 99 is behind each partner");
        Hands.with("a", "b").due("price(2, 6)", 2).due("least(0, 1)", 6).due("led(0, 1, 0)", 0);
        dueRow(Hands.with("a(aa)", "a(a)"), 0, 1, 0, 1, 99);
        dueRow(Hands.with("a(a)", "a(aa)"), 0, 1, 0, 1);
        dueRow(Hands.with("a(a)", "a(a(a))"), 0, 1, 0, 1);
        dueRow(Hands.with("a(a(a))", "a(a)"), 0, 1, 0, 1, 99);
        dueRow(Hands.with("b(bb(aa)bbba)", "b(aaa(a))"), 0, 1, 0, 99, 99, 1, 2, 99, 99, 99, 3);
        dueRow(Hands.with("a(bcdefghijklmnpp)", "a(bcdefghijklmnp)"), 0, 1, 0, 1, 2, 3, 4, 5, 6, 7, 8, 9, 10, 11, 12, 13, 14, 99);
        dueRow(Hands.with("b(ac)", "a(c)").due("price(0, 0)", 3).due("price(1, 0)", 3).due("price(2, 0)", 2), 0, 1, 0, 1, 99);
        dueRow(Hands.with("b(ac)", "a(c)").due("price(0, 0)", 3).due("price(1, 0)", 3).due("price(2, 1)", 2), 0, 1, 99, 0, 99);
        sentence("12: UNKNOWN");
        refusedEach(BoundsTest::room, "led(#, 0, 0)", NO_TREES + " 3", UNKNOWN);
        refusedEach(BoundsTest::room, "led(0, #, 0)", NO_TREES + " 3", UNKNOWN);
        refusedEach(BoundsTest::room, "led(0, 2, #)", "-1 8 MIN MAX", UNKNOWN);
        refusedEach(BoundsTest::room, "led(2, 0, #)", "-1 5 7 MIN MAX", UNKNOWN);
    }

    private static void dueEdits(Hands h, int s, int t, int... want) {
        for (int w = 0; w < 6; w++) h.due("edits(" + s + ", " + t + ", " + w + ")", want[w]);
    }

    private static void edits() {
        sentence("13: 0 led ones, 1 those of them with another LABEL, 2 dropped, 3 added, 4 MOVED pairs, 5 NODES of s in MOVED pairs");
        Hands h = Hands.with(FLAT16, "z(zzzzzzzzzzzzzzz)", "a", CHAIN16);
        dueEdits(h, 0, 0, 16, 0, 0, 0, 0, 0);
        dueEdits(h, 0, 1, 16, 16, 0, 0, 0, 0);
        dueEdits(h, 0, 2, 1, 0, 15, 0, 0, 0);
        dueEdits(h, 2, 0, 1, 0, 0, 15, 0, 0);
        h.due("price(2, 9)", 2);
        dueEdits(h, 0, 1, 0, 0, 16, 16, 0, 0);
        dueEdits(Hands.with("f(m(nop)g(abc))", "f(g(abc)m(nopq))").due("price(2, 9)", 2), 0, 1, 5, 0, 4, 5, 1, 4);
        sentence("13: UNKNOWN");
        refusedEach(BoundsTest::room, "edits(#, 0, 0)", NO_TREES + " 3", UNKNOWN);
        refusedEach(BoundsTest::room, "edits(0, #, 5)", NO_TREES + " 3", UNKNOWN);
        sentence("13: OUTSIDE");
        refusedEach(BoundsTest::room, "edits(0, 2, #)", "-1 6 MIN MAX", OUTSIDE);
        sentence("13: UNKNOWN is ahead of OUTSIDE");
        refusedEach(BoundsTest::room, "edits(#, 0, 6)", NO_TREES + " 3", UNKNOWN);
        refusedEach(BoundsTest::room, "edits(0, #, -1)", NO_TREES + " 3", UNKNOWN);
    }

    private static void moved() {
        sentence("14: MOVED pair i: 100 times NODE of s, and NODE of t; NONE");
        Hands h = Hands.with("f(m(abcdeghijklno)x)", "f(xm(abcdeghijklno))");
        h.due("moved(0, 1, 0)", 1501).due("moved(0, 1, 1)", NONE).due("moved(1, 0, 0)", 115).due("moved(1, 0, 1)", NONE);
        h.due("moved(0, 1, -1)", NONE).due("moved(0, 1, MIN)", NONE).due("moved(0, 1, MAX)", NONE).due("moved(0, 0, 0)", NONE);
        Hands two = Hands.with("f(xg(y)m(abcdehi))", "f(m(abcdehi)g(y)x)");
        two.due("moved(0, 1, 0)", 209).due("moved(0, 1, 1)", 111).due("moved(0, 1, 2)", NONE).due("moved(0, 1, 16)", NONE);
        sentence("MOVED: as long as none of it was taken");
        // g(y) is taken, so that y in it is not; the y that is left has no other to go with
        Hands none = Hands.with("f(g(y)m(abcdehi))", "f(m(abcdehi)g(y)y)");
        none.due("edits(0, 1, 4)", 1).due("moved(0, 1, 0)", 109).due("moved(0, 1, 1)", NONE);
        none.due("moved(1, 0, 0)", 901).due("moved(1, 0, 1)", NONE);
        sentence("MOVED: greatest SIZE first, then the first of s, then the first of t");
        Hands order = Hands.with("f(yyg(x)m(abcdehi))", "f(m(abcdehi)yyg(x))");
        order.due("moved(0, 1, 0)", 311).due("moved(0, 1, 1)", 109).due("moved(0, 1, 2)", 210).due("moved(0, 1, 3)", NONE);
        sentence("14: UNKNOWN");
        for (String i : new String[] {"0", "-1", "MAX"}) {
            refusedEach(BoundsTest::room, "moved(#, 0, " + i + ")", NO_TREES + " 3", UNKNOWN);
            refusedEach(BoundsTest::room, "moved(0, #, " + i + ")", NO_TREES + " 3", UNKNOWN);
        }
    }

    private static void movedOnly() {
        sentence("MOVED: of NODES of s that are not led, and such of t that none is led to");
        dueEdits(Hands.with("f(aa)", "f(a)"), 0, 1, 2, 0, 1, 0, 0, 0);
        dueEdits(Hands.with("f(a)", "f(aa)"), 0, 1, 2, 0, 0, 1, 0, 0);
        // the a of s that is left, and the a of t that is led to
        Hands.with("f(aa)", "f(a)").due("moved(0, 1, 0)", NONE).due("moved(1, 0, 0)", NONE);
        sentence("MOVED: all whose NODES are not (nor of what lies within)");
        // g(m(nop)a) is not led, but what lies within is
        Hands in = Hands.with("f(g(m(nop)a))", "f(m(nop)g(a))");
        dueRow(in, 0, 1, 0, 99, 1, 2, 3, 4, 6);
        dueEdits(in, 0, 1, 6, 0, 1, 1, 0, 0);
        sentence("13: 5 NODES of s in MOVED pairs, of these two TREES alone");
        Hands h = Hands.with("f(g(y)m(abcdehi))", "f(m(abcdehi)g(y))", "a", "b");
        h.due("edits(0, 1, 5)", 2).due("edits(1, 0, 5)", 2).due("edits(2, 3, 5)", 0).due("edits(0, 1, 5)", 2).due("edits(0, 0, 5)", 0);
    }

    private static void leastAnew() {
        sentence("THE LEAST is of the TREES and PRICES as they are now");
        Hands h = Hands.ruled("a=c", "a=b", "a=d").put(0, "a").put(1, "b").due("least(0, 1)", 2);
        h.due("price(2, 1)", 2).due("least(0, 1)", 1).due("price(2, 9)", 1).due("least(0, 1)", 6).due("led(0, 1, 0)", 99);
        h.due("price(2, 10)", OUTSIDE).due("least(0, 1)", 6).put(0, "b").due("least(0, 1)", 0).due("led(0, 1, 0)", 0);
        h.put(1, "a").due("least(0, 1)", 6).due("take(0, 0, 1)", 1).due("least(0, 1)", 0).put(0, "a").put(1, "b");
        h.due("least(0, 1)", 6).due("make(0, 0, 1)", 1).due("least(0, 1)", 0).put(0, "a").due("edits(0, 1, 0)", 0);
        h.due("walk(0, true)", 0).due("edits(0, 1, 1)", 0).put(1, "c").due("edits(0, 1, 0)", 1).due("led(0, 1, 0)", 0);
        h.put(2, "a").due("least(0, 2)", 6).due("common(0, 0, 1, 0, 2)", 0).due("least(0, 2)", 0).put(0, "a").due("least(0, 1)", 6);
        h.due("peak(0, 1, 0, 1)", 1).due("least(0, 1)", 0).due("moved(0, 1, 0)", NONE).due("take(4, 0, 3)", 1).due("least(3, 1)", 0);
    }

    // ---- 3 common

    private static void common() {
        sentence("15: TREE u becomes COMMON: how many HOLES it tells apart");
        Hands h = Hands.with(FLAT16, "z", "z(a)", CHAIN16, "a(bb)", "a(cc)");
        h.due("common(0, 0, 0, 0, 5)", 0).dueText(5, FLAT16).due("common(0, 0, 1, 0, 5)", 1).dueText(5, "A");
        h.due("common(1, 0, 2, 0, 5)", 1).dueText(5, "A").due("common(3, 0, 3, 1, 5)", 1);
        h.dueText(5, "a(a(a(a(a(a(a(a(a(a(a(a(a(a(A))))))))))))))").put(5, "a(cc)").due("common(4, 0, 5, 0, 5)", 1).dueText(5, "a(AA)");
        h.due("common(0, 15, 1, 0, 0)", 1).dueText(0, "A").due("told(20)", 1);
        sentence("COMMON of NODE i of s and NODE k of t: what is behind them in their TREES is not of it");
        Hands in = Hands.with("f(g(ab)cd)", "f(g(xb)yd)").due("common(0, 1, 1, 1, 2)", 1).dueText(2, "g(Ab)");
        in.due("common(0, 2, 1, 2, 2)", 1).dueText(2, "A").due("common(0, 3, 1, 3, 2)", 0).dueText(2, "b").due("told(12)", 1);
        in.due("common(0, 0, 1, 1, 2)", 1).dueText(2, "A").due("common(0, 5, 1, 5, 2)", 0).dueText(2, "d");
        sentence("15: NO: more than 8");
        Hands eight = Hands.with("x(abcdefghh)", "x(bcdefghii)").due("common(0, 0, 1, 0, 2)", 8).dueText(2, "x(ABCDEFGHH)");
        eight.due("told(22)", 8);
        refusedEach(x -> x.put(0, "x(abcdefghi)").put(1, "x(bcdefghij)").put(2, "y"), "common(0, 0, 1, 0, #)", "0 1 2 3 5", NO);
        refused(x -> x.put(0, "x(abcdefghijklmno)").put(1, "x(bcdefghijklmnop)"), "common(0, 0, 1, 0, 2)", NO);
        sentence("the same for the same two TREES (ALIKE both)");
        Hands.with("x(abcdefgha)", "x(bcdefghib)").due("common(0, 0, 1, 0, 2)", 8).dueText(2, "x(ABCDEFGHA)");
        refused(x -> x.put(0, "x(abcdefgha)").put(1, "x(bcdefghik)"), "common(0, 0, 1, 0, 2)", NO);
        refused(x -> x.put(0, "x(abcdefghk)").put(1, "x(bcdefghib)"), "common(0, 0, 1, 0, 2)", NO);
        sentence("15: UNKNOWN");
        refusedEach(BoundsTest::room, "common(#, 0, 2, 0, 5)", NO_TREES + " 3", UNKNOWN);
        refusedEach(BoundsTest::room, "common(0, #, 2, 0, 5)", "-1 8 MIN MAX", UNKNOWN);
        refusedEach(BoundsTest::room, "common(0, 0, #, 0, 5)", NO_TREES + " 3", UNKNOWN);
        refusedEach(BoundsTest::room, "common(0, 0, 2, #, 5)", "-1 5 MIN MAX", UNKNOWN);
        refusedEach(BoundsTest::room, "common(0, 0, 2, 0, #)", NO_TREES, UNKNOWN);
        sentence("15: STATE: one of both is not PLAIN");
        refusedEach(BoundsTest::room, "common(1, #, 0, 0, 5)", "0 1 2 3", STATE);
        refusedEach(BoundsTest::room, "common(0, 0, 1, #, 5)", "0 1 2 3", STATE);
        refused(BoundsTest::room, "common(1, 0, 1, 0, 5)", STATE);
        refused(BoundsTest::room, "common(4, 0, 1, 0, 4)", STATE);
        sentence("15: UNKNOWN is ahead of STATE and of NO, STATE of NO");
        refusedEach(BoundsTest::room, "common(1, 0, 0, 0, #)", NO_TREES, UNKNOWN);
        refusedEach(BoundsTest::room, "common(1, #, 0, 0, 5)", "-1 4 MIN MAX", UNKNOWN);
        refusedEach(BoundsTest::room, "common(1, 0, 0, #, 5)", "-1 8 MIN MAX", UNKNOWN);
        refusedEach(BoundsTest::room, "common(#, 0, 1, 0, 5)", NO_TREES + " 3", UNKNOWN);
        Setup nine = x -> x.put(0, "x(abcdefghi)").put(1, "x(bcdefghij)").put(2, "x(bcdefghijA)").put(3, "x(abcdefghia)");
        refusedEach(nine, "common(0, 0, 1, 0, #)", NO_TREES, UNKNOWN);
        refused(nine, "common(2, 0, 3, 0, 5)", STATE);
        refused(nine, "common(3, 0, 2, 0, 5)", STATE);
    }

    private static void dueTwice(Hands h, int t, int size, int first, int second) {
        h.due("twice(" + t + ", 0)", size).due("twice(" + t + ", 1)", first).due("twice(" + t + ", 2)", second);
    }

    private static void twice() {
        sentence("16: SAID TWICE: SIZE, the first NODE, the second");
        Hands h = Hands.with("a(bcdefghijklmnoo)", "a(b(ccccc)b(ccccc))", "a(bb)", "a(AA)");
        dueTwice(h, 0, 1, 14, 15);
        dueTwice(h, 1, 6, 1, 7);
        dueTwice(h, 2, 1, 1, 2);
        dueTwice(h, 3, 1, 1, 2);
        h.put(0, "f(g(a(bcdef))g(a(bcdef)))");
        dueTwice(h, 0, 7, 1, 8);
        sentence("16: NONE");
        Hands n = Hands.with("a", FLAT16, "a(b)", "a(AB)");
        for (int t = 0; t < 4; t++) dueTwice(n, t, NONE, NONE, NONE);
        sentence("SAID TWICE: neither within the other");
        dueTwice(Hands.with("a(a)"), 0, NONE, NONE, NONE);
        dueTwice(Hands.with(CHAIN16), 0, NONE, NONE, NONE);
        sentence("SAID TWICE: the greatest SIZE, of several the first of the one, then of the other");
        dueTwice(Hands.with("f(aag(b)g(b)g(b))"), 0, 2, 3, 5);
        dueTwice(Hands.with("f(g(b)aag(b))"), 0, 2, 1, 5);
        dueTwice(Hands.with("f(abba)"), 0, 1, 1, 4);
        dueTwice(Hands.with("f(aaa)"), 0, 1, 1, 2);
        sentence("16: UNKNOWN: also it is empty");
        for (int w = 0; w < 3; w++) refusedEach(BoundsTest::room, "twice(#, " + w + ")", NO_TREES + " 3", UNKNOWN);
        sentence("16: OUTSIDE");
        refusedEach(BoundsTest::room, "twice(0, #)", "-1 3 MIN MAX", OUTSIDE);
        refusedEach(x -> x.put(0, "a"), "twice(0, #)", "-1 3 MIN MAX", OUTSIDE);
        sentence("16: UNKNOWN is ahead of OUTSIDE");
        refusedEach(BoundsTest::room, "twice(#, 3)", NO_TREES + " 3", UNKNOWN);
        refusedEach(BoundsTest::room, "twice(3, #)", "-1 3 MIN MAX", UNKNOWN);
    }

    // ---- 4 rules

    /** Six RULES; TREE 0 f(ab) fits all but the last, which FITS a; TREE 2 is a HOLE, 3 is empty. */
    private static void sixRules(Hands h) {
        h.rules("f(AB)=A", "f(AB)=B", "f(aB)=B", "f(Ab)=A", "f(ab)=c", "a=d");
        h.put(0, "f(ab)").put(1, "f(C)").put(2, "A");
    }

    private static void rule() {
        sentence("RULES, 6 at most, numbered from 0 on; 17: its number");
        Hands h = Hands.with("a", "b");
        for (int r = 0; r < 6; r++) h.due("rule(0, 1)", r).due("told(1)", r + 1);
        sentence("17: FULL");
        h.due("rule(0, 1)", FULL).due("told(1)", 6);
        refused(BoundsTest::sixRules, "rule(0, 0)", FULL);
        refused(BoundsTest::sixRules, "rule(1, 2)", FULL);
        sentence("17: UNKNOWN: also one TREE is empty");
        refusedEach(BoundsTest::room, "rule(#, 0)", NO_TREES + " 3", UNKNOWN);
        refusedEach(BoundsTest::room, "rule(0, #)", NO_TREES + " 3", UNKNOWN);
        refused(BoundsTest::room, "rule(3, 3)", UNKNOWN);
        sentence("17: NO: left is a HOLE");
        refused(BoundsTest::room, "rule(4, 0)", NO);
        refused(BoundsTest::room, "rule(4, 4)", NO);
        Hands.with("a(A)", "A").due("rule(0, 1)", 0).due("rule(0, 0)", 1);
        sentence("17: NO: right has another one");
        refused(BoundsTest::room, "rule(0, 1)", NO);
        refused(BoundsTest::room, "rule(0, 4)", NO);
        refused(x -> x.put(0, "x(ABCDEFG)").put(1, "y(ABCDEFGH)"), "rule(0, 1)", NO);
        refused(x -> x.put(0, "x(BCDEFGH)").put(1, "A"), "rule(0, 1)", NO);
        Hands eight = Hands.with("x(ABCDEFGH)", "y(HGFEDCBA)", "H", "a").due("rule(0, 1)", 0).due("rule(1, 0)", 1);
        eight.due("rule(0, 2)", 2).due("rule(0, 3)", 3);
        sentence("17: UNKNOWN is ahead of FULL and of NO, FULL of NO");
        refusedEach(BoundsTest::sixRules, "rule(#, 0)", NO_TREES + " 3", UNKNOWN);
        refusedEach(BoundsTest::sixRules, "rule(0, #)", NO_TREES + " 3", UNKNOWN);
        refusedEach(BoundsTest::room, "rule(4, #)", NO_TREES + " 3", UNKNOWN);
        refusedEach(BoundsTest::room, "rule(#, 1)", NO_TREES + " 3", UNKNOWN);
        refused(BoundsTest::sixRules, "rule(2, 0)", FULL);
        refused(BoundsTest::sixRules, "rule(0, 1)", FULL);
        sentence("17: a RULE of 16 NODES on both sides");
        Hands.with("a(Abcdefghijklmno)", "p(Aaaaaaaaaaaaaaa)").due("rule(0, 1)", 0).put(2, "a(zbcdefghijklmno)")
            .due("fits(2, 0)", 1).due("make(2, 0, 0)", 16).dueText(2, "p(zaaaaaaaaaaaaaa)");
        sentence("17: a RULE stays as it was told when its TREES go");
        Hands.with("a", "b", "a").due("rule(0, 1)", 0).put(0, "c").put(1, "d").due("make(2, 0, 0)", 1).dueText(2, "b");
    }

    private static void clear() {
        sentence("18: RULES go: how many there were");
        new Hands().due("clear()", 0).due("clear()", 0);
        Hands h = Hands.ruled("a=b").put(0, "a").due("clear()", 1).due("clear()", 0).due("told(1)", 0);
        h.due("fits(0, 0)", 0).due("make(0, 0, 0)", UNKNOWN).due("walk(0, true)", 0).due("steps()", 0).dueText(0, "a");
        Hands six = new Hands();
        sixRules(six);
        // f(AB), f(AB), f(aB), f(Ab) and f(ab) meet at NODE 0, each with each; a at NODE 1 of two of them
        six.due("overlaps(0)", 22).due("clear()", 6);
        for (int w = 0; w < 4; w++) six.due("overlaps(" + w + ")", 0);
        six.due("overlap(0, 1, 0)", UNKNOWN).due("peak(0, 1, 0, 5)", UNKNOWN);
        sentence("18: 6 again when RULES have gone");
        for (int r = 0; r < 6; r++) six.due("rule(0, 0)", r);
        six.due("rule(0, 0)", FULL).due("clear()", 6);
        sentence("18: RULES go, and nothing else");
        Hands room = new Hands();
        room(room);
        room.due("clear()", 3).due("told(0)", 5).due("steps()", 1).due("price(0, 0)", 4).dueText(0, "f(g(ab)g(ab)c)");
    }

    private static void fits() {
        sentence("19: RULES that FIT a NODE, as bits");
        Hands h = new Hands();
        sixRules(h);
        h.due("fits(0, 0)", 31).due("fits(0, 1)", 32).due("fits(0, 2)", 0);
        Hands all = Hands.with("a", "b");
        for (int r = 0; r < 6; r++) all.due("fits(0, 0)", (1 << r) - 1).due("rule(0, 1)", r);
        all.due("fits(0, 0)", 63).due("fits(1, 0)", 0).due("clear()", 6).due("fits(0, 0)", 0);
        sentence("one HOLE ALIKE everywhere");
        Hands one = Hands.ruled("f(AA)=A", "f(AHH)=A").put(0, "f(g(ab)g(ab))").put(1, "f(g(ab)g(ac))").put(2, "f(g(a)aa)");
        one.due("fits(0, 0)", 1).due("fits(1, 0)", 0).due("fits(2, 0)", 2);
        sentence("19: a left TREE that is greater than the NODE's, or has other PARTS, does not FIT");
        Hands great = Hands.ruled("a(a(A))=A", "a(AB)=A", "a=b").put(0, "a(a)").due("fits(0, 0)", 0).due("fits(0, 1)", 4);
        great.put(0, CHAIN16).due("fits(0, 13)", 1).due("fits(0, 14)", 0).due("fits(0, 15)", 0);
        sentence("19: UNKNOWN");
        refusedEach(BoundsTest::room, "fits(#, 0)", NO_TREES + " 3", UNKNOWN);
        refusedEach(BoundsTest::room, "fits(0, #)", "-1 8 MIN MAX", UNKNOWN);
        sentence("19: STATE: it is not PLAIN");
        refusedEach(BoundsTest::room, "fits(1, #)", "0 1 2 3", STATE);
        refused(BoundsTest::room, "fits(4, 0)", STATE);
        refused(x -> x.put(0, "a(bH)"), "fits(0, 1)", STATE);
        sentence("19: UNKNOWN is ahead of STATE");
        refusedEach(BoundsTest::room, "fits(1, #)", "-1 4 MIN MAX", UNKNOWN);
    }

    private static void make() {
        sentence("20: A RULE is done at a NODE: NODES of the TREE then");
        Hands h = Hands.ruled("f(A)=A", "a=f(a)", "b=c").put(0, "f(a)").due("make(0, 0, 0)", 1).dueText(0, "a");
        h.due("make(0, 0, 1)", 2).dueText(0, "f(a)").due("make(0, 1, 1)", 3).dueText(0, "f(f(a))");
        h.put(0, CHAIN16).due("make(0, 15, 2)", 16).due("node(0, 15, 0)", 'c').put(0, FLAT16).due("make(0, 1, 2)", 16);
        h.dueText(0, "a(ccdefghijklmnop)");
        sentence("20: FULL: more than 16");
        Hands grow = Hands.ruled("b=g(hi)", "f(A)=g(AA)").put(0, "a(bbbbbbbbbbbbb)").due("make(0, 13, 0)", 16);
        grow.dueText(0, "a(bbbbbbbbbbbbg(hi))").put(0, "f(a(bbbbbb))").due("make(0, 0, 1)", 15);
        Setup full = x -> x.rules("b=g(hi)", "f(A)=g(AA)", "f(A)=g(AAAAAAAAAAAAAAA)").put(0, "a(bbbbbbbbbbbbbb)").put(1, "f(a(bbbbbbb))").put(2, "f(bA)");
        refusedEach(full, "make(0, #, 0)", "1 2 14", FULL);
        refused(full, "make(1, 0, 1)", FULL);
        refused(full, "make(1, 0, 2)", FULL);
        refused(x -> x.rules("b=g(h)").put(0, FLAT16), "make(0, 1, 0)", FULL);
        sentence("20: NO: it does not FIT");
        refusedEach(BoundsTest::room, "make(0, #, 0)", "1 2 7", NO);
        refusedEach(BoundsTest::room, "make(0, 0, #)", "1 2", NO);
        refused(full, "make(0, 0, 0)", NO);
        sentence("20: UNKNOWN");
        refusedEach(BoundsTest::room, "make(#, 0, 0)", NO_TREES + " 3", UNKNOWN);
        refusedEach(BoundsTest::room, "make(0, #, 0)", "-1 8 MIN MAX", UNKNOWN);
        refusedEach(BoundsTest::room, "make(0, 0, #)", "-1 3 5 6 MIN MAX", UNKNOWN);
        Setup six = BoundsTest::sixRules;
        refusedEach(six, "make(0, 0, #)", "-1 6 MIN MAX", UNKNOWN);
        refused(x -> x.put(0, "a"), "make(0, 0, 0)", UNKNOWN);
        sentence("20: STATE");
        refusedEach(BoundsTest::room, "make(1, #, 0)", "0 1 2 3", STATE);
        sentence("20: UNKNOWN is ahead of STATE, FULL and NO, STATE of FULL and NO");
        refusedEach(BoundsTest::room, "make(1, #, 0)", "-1 4 MIN MAX", UNKNOWN);
        refusedEach(BoundsTest::room, "make(1, 0, #)", "-1 3 MIN MAX", UNKNOWN);
        refusedEach(full, "make(0, #, 0)", "-1 15 16 MIN MAX", UNKNOWN);
        refusedEach(full, "make(0, 1, #)", "-1 3 MIN MAX", UNKNOWN);
        refused(x -> x.rules("b=g(hi)").put(0, "a(bbbbbbbbbbbbbA)"), "make(0, 1, 0)", STATE);
        refused(full, "make(2, 0, 0)", STATE);
    }

    private static void walks(Hands h, String from, boolean within, int end, int steps, String to) {
        h.call("wipe()");
        h.put(0, from).due("walk(0, " + within + ")", end).due("steps()", steps).dueText(0, to);
    }

    private static void walk() {
        sentence("21: UNKNOWN: also it is empty");
        for (String within : new String[] {"true", "false"}) {
            refusedEach(BoundsTest::room, "walk(#, " + within + ")", NO_TREES + " 3", UNKNOWN);
            sentence("21: STATE");
            refusedEach(BoundsTest::room, "walk(#, " + within + ")", "1 4", STATE);
            refused(x -> x.put(0, "H"), "walk(0, " + within + ")", STATE);
            sentence("21: 0 none FITS");
            boolean in = within.equals("true");
            walks(new Hands(), "a", in, 0, 0, "a");
            walks(Hands.ruled("b=c"), "a", in, 0, 0, "a");
            walks(Hands.ruled("b=c"), FLAT16, in, 0, 1, "a(ccdefghijklmnop)");
            walks(Hands.ruled("b=c"), CHAIN16, in, 0, 1, CHAIN16.replace('b', 'c'));
        }
        sentence("from without (NODES as written) or from within (each behind all that lies within it)");
        String[] order = {"f(A)=m", "g(A)=A", "m=n", "a=b", "h(A)=A"};
        walks(Hands.ruled(order), "f(g(a))", false, 0, 2, "n");
        walks(Hands.ruled(order), "f(g(a))", true, 0, 4, "n");
        walks(Hands.ruled("p(aA)=q", "a=b", "p(bA)=r"), "p(aa)", false, 0, 1, "q");
        walks(Hands.ruled("p(aA)=q", "a=b", "p(bA)=r"), "p(aa)", true, 0, 3, "r");
        sentence("of several such as written");
        walks(Hands.ruled("a=z(zzzzzzzzzzzzzz)", "b=d"), "f(ba)", false, 2, 1, "f(da)");
        walks(Hands.ruled("a=z(zzzzzzzzzzzzzz)", "b=d"), "f(ba)", true, 2, 1, "f(da)");
        walks(Hands.ruled("a=z(zzzzzzzzzzzzzz)", "b=d"), "f(ab)", true, 2, 0, "f(ab)");
        sentence("with the first RULE that FITS it");
        walks(Hands.ruled("a=b", "a=c"), "a", false, 0, 1, "b");
        walks(Hands.ruled("a=c", "a=b"), "a", true, 0, 1, "c");
        sentence("21: TREE t becomes its end, whichever was read the last");
        Hands last = Hands.ruled("a=b").put(0, "c(a)").put(1, "a").due("walk(0, true)", 0).dueText(0, "c(b)").dueText(1, "a");
        last.due("walk(1, false)", 0).dueText(1, "b").dueText(0, "c(b)");
        sentence("a WALK leaves the other TREES and the PAD alone");
        Hands room = new Hands();
        room(room);
        room.due("walk(0, true)", 0).due("told(0)", 5).dueText(2, "f(cg(ab))").dueText(5, "k(ca)").due("told(1)", 3);
    }

    /**
     * Counts in twos: r goes right over each i, makes the first o an i, and l goes back. One RULE FITS one NODE at a
     * time, so both WALKS go one way, and as long as one likes: behind 11 is 1, and so on till all are i.
     */
    private static Hands counter(String... more) {
        return Hands.ruled("r(i(A))=o(r(A))", "r(o(A))=l(i(A))", "o(l(A))=l(o(A))", "t(l(A))=t(r(A))").rules(more);
    }

    private static void walkEnds() {
        for (boolean in : new boolean[] {true, false}) {
            sentence("1 it is as it was behind an earlier step (or at first)");
            walks(Hands.ruled("a=a"), "a", in, 1, 1, "a");
            walks(Hands.ruled("a=b", "b=a"), "a", in, 1, 2, "a");
            walks(Hands.ruled("a=b", "b=c", "c=b"), "a", in, 1, 3, "b");
            walks(Hands.ruled("f(AB)=f(BA)"), "f(aa)", in, 1, 1, "f(aa)");
            walks(Hands.ruled("f(AB)=f(BA)"), "f(a(bcdefghijk)lm)".replace("lm", "l"), in, 1, 2, "f(a(bcdefghijk)l)");
            walks(Hands.ruled("b=c", "c=b"), CHAIN16, in, 1, 2, CHAIN16);
            sentence("3 100 steps are done and one FITS yet; 0 none FITS behind the 100th");
            walks(counter("r(z)=z"), "t(l(i(i(i(o(o(z)))))))", in, 0, 99, "t(o(o(o(o(o(z))))))");
            walks(counter("r(z)=z"), "t(r(o(i(i(o(o(z)))))))", in, 0, 100, "t(o(o(o(o(o(z))))))");
            walks(counter("r(z)=z"), "t(l(o(i(i(o(o(z)))))))", in, 3, 100, "t(o(o(o(o(o(r(z)))))))");
            walks(counter(), "t(r(o(o(o(o(o(o(z))))))))", in, 3, 100, "t(r(i(i(o(i(i(o(z))))))))");
            sentence("1 is told ahead of 3");
            String[] round = {"r(z)=l(z)", "r(y)=l(z)"};
            walks(counter(round), "t(r(o(i(i(o(y))))))", in, 1, 99, "t(o(o(o(o(l(z))))))");
            walks(counter(round), "t(l(o(i(i(o(y))))))", in, 1, 100, "t(o(o(o(o(l(z))))))");
            walks(counter(round), "t(o(l(i(i(o(y))))))", in, 3, 100, "t(o(o(o(o(r(z))))))");
            sentence("3 is told ahead of 2");
            String great = "r(z)=z(zzzzzzzzzzzzzzz)";
            walks(counter(great), "t(r(o(i(i(o(o(z)))))))", in, 2, 99, "t(o(o(o(o(o(r(z)))))))");
            walks(counter(great), "t(l(o(i(i(o(o(z)))))))", in, 3, 100, "t(o(o(o(o(o(r(z)))))))");
            sentence("2 it would have more than 16 NODES by the next one");
            walks(Hands.ruled("a=z(zzzzzzzzzzzzzzz)"), "a", in, 0, 1, "z(zzzzzzzzzzzzzzz)");
            walks(Hands.ruled("a=z(zzzzzzzzzzzzzzz)"), "b(a)", in, 2, 0, "b(a)");
            walks(Hands.ruled("b=c(d)"), "a(eeeeeeeeeeeeeb)", in, 0, 1, "a(eeeeeeeeeeeeec(d))");
            walks(Hands.ruled("b=c(d)"), FLAT16, in, 2, 0, FLAT16);
            walks(Hands.ruled("b=c(b)"), "b", in, 2, 15, CHAIN16.replace('a', 'c'));
            sentence("2 though another RULE or NODE would do");
            walks(Hands.ruled("a=z(zzzzzzzzzzzzzzz)", "a=b", "c=d"), "f(ac)", in, 2, 0, "f(ac)");
        }
    }

    private static void steps() {
        sentence("22: Steps of the latest WALK by walk()");
        Hands h = Hands.ruled("a=b").put(0, "f(aaa)").due("steps()", NONE).due("make(0, 1, 0)", 4).due("steps()", NONE);
        h.due("walk(0, true)", 0).due("steps()", 2).due("walk(0, true)", 0).due("steps()", 0).put(0, "a");
        h.due("walk(0, false)", 0).due("steps()", 1);
        sentence("22: a refused walk is none");
        h.put(1, "A").due("walk(1, true)", STATE).due("walk(2, true)", UNKNOWN).due("walk(6, true)", UNKNOWN).due("steps()", 1);
        Hands n = Hands.with("A").due("walk(0, true)", STATE).due("walk(1, true)", UNKNOWN).due("walk(-1, true)", UNKNOWN);
        n.due("steps()", NONE);
        sentence("22: what overlap and overlaps WALK is not by walk()");
        Hands o = Hands.ruled("a=b", "a=c", "b=d", "c=d").due("overlap(0, 1, 0)", 2).due("overlaps(1)", 2).due("steps()", NONE);
        o.put(0, "a").due("walk(0, true)", 0).due("overlap(0, 1, 0)", 2).due("overlaps(0)", 2).due("clear()", 4).due("steps()", 2);
    }

    /** What came otherwise than by read has its NODES told as well. */
    private static void nodesOfWhatCame() {
        sentence("6: of NODES of TREES that take, common, make, walk, peak made");
        Hands h = Hands.ruled("a=g(bc)", "k(AB)=m(BA)", "k(g(A)B)=n").put(0, "f(f(dh(a))e)");
        h.due("take(0, 1, 1)", 4).due("node(1, 0, 1)", NONE).due("node(1, 0, 2)", NONE).due("node(1, 3, 1)", 2).due("node(1, 3, 5)", 2);
        h.due("make(0, 4, 0)", 8).dueText(0, "f(f(dh(g(bc)))e)").due("node(0, 4, 1)", 3).due("node(0, 5, 1)", 4);
        h.due("node(0, 6, 2)", 1).due("node(0, 6, 5)", 4).due("node(0, 7, 1)", 0).due("node(0, 7, 2)", 1).due("node(0, 1, 4)", 6);
        h.due("walk(1, false)", 0).dueText(1, "f(dh(g(bc)))").due("node(1, 5, 1)", 3).due("node(1, 0, 4)", 6).due("node(1, 0, 1)", NONE);
        h.put(2, "f(xy)").put(3, "f(e(x)z)").due("common(2, 0, 3, 0, 2)", 2).dueText(2, "f(AB)").due("node(2, 1, 3)", 0);
        h.due("node(2, 2, 1)", 0).due("node(2, 2, 2)", 1).due("node(2, 0, 3)", 2).due("node(2, 2, 0)", 'B');
        h.due("peak(1, 2, 0, 3)", 4).dueText(3, "k(g(A)B)").due("node(3, 2, 1)", 1).due("node(3, 2, 3)", 0).due("node(3, 3, 3)", 0);
        h.due("node(3, 3, 2)", 1).due("node(3, 0, 1)", NONE).due("node(3, 2, 5)", 2);
    }

    // ---- 5 overlaps

    private static void overlap() {
        sentence("23: UNKNOWN: RULES, NODE of a's left");
        refusedEach(BoundsTest::room, "overlap(#, 0, 0)", "-1 3 5 6 MIN MAX", UNKNOWN);
        refusedEach(BoundsTest::room, "overlap(0, #, 0)", "-1 3 5 6 MIN MAX", UNKNOWN);
        refusedEach(BoundsTest::room, "overlap(0, 1, #)", "-1 4 MIN MAX", UNKNOWN);
        refusedEach(BoundsTest::room, "overlap(1, 0, #)", "-1 3 MIN MAX", UNKNOWN);
        refusedEach(BoundsTest::sixRules, "overlap(#, 0, 0)", "-1 6 MIN MAX", UNKNOWN);
        refusedEach(BoundsTest::sixRules, "overlap(0, #, 0)", "-1 6 MIN MAX", UNKNOWN);
        refused(x -> x.put(0, "a"), "overlap(0, 0, 0)", UNKNOWN);
        sentence("23: NO: a HOLE, NODE 0 of a RULE with itself");
        refusedEach(BoundsTest::room, "overlap(0, 1, #)", "1 2 3", NO);
        refusedEach(BoundsTest::room, "overlap(0, 0, #)", "0 1 2 3", NO);
        refusedEach(BoundsTest::room, "overlap(2, 2, #)", "0 2", NO);
        refused(BoundsTest::sixRules, "overlap(5, 5, 0)", NO);
        sentence("23: UNKNOWN is ahead of NO");
        refusedEach(BoundsTest::room, "overlap(0, #, 1)", "-1 3 MIN MAX", UNKNOWN);
        refused(BoundsTest::room, "overlap(3, 3, 0)", UNKNOWN);
        sentence("23: 0 there is none");
        Hands h = Hands.ruled("f(a)=b", "f(b)=b", "f(AA)=b", "f(g(A)A)=b", "f(AB)=b", "f=b");
        h.due("overlap(0, 0, 1)", 0).due("overlap(0, 1, 0)", 0).due("overlap(0, 4, 0)", 0).due("overlap(0, 5, 0)", 0);
        h.due("overlap(5, 0, 0)", 0).due("overlap(5, 4, 0)", 0);
        sentence("a HOLE is never put a TREE with itself within");
        h.due("overlap(2, 3, 0)", 0).due("overlap(3, 2, 0)", 0).due("overlap(2, 4, 0)", 2).due("overlap(4, 3, 0)", 2);
        sentence("not NODE 0, if a and b are one; two RULES that are written alike are not one");
        Hands.ruled("f(A)=A", "f(A)=A").due("overlap(0, 0, 0)", NO).due("overlap(0, 1, 0)", 2).due("overlap(1, 0, 0)", 2);
        sentence("both HOLES held for different");
        // f(A g(A)) with A held for one would be a TREE within itself
        Hands.ruled("f(Ab)=A", "f(g(A)B)=g(A)").due("overlap(0, 1, 0)", 2).due("overlap(1, 0, 0)", 2);
        Hands.ruled("f(f(A))=A").due("overlap(0, 0, 1)", 2);
        sentence("OVERLAP at the last NODE of a left TREE of 16");
        Hands.ruled("x(abcdefghijklmny)=a", "y=y").due("overlap(0, 1, 15)", 1).due("overlap(0, 1, 14)", 0).due("overlap(0, 1, 16)", UNKNOWN);
    }

    private static void overlapTooGreat() {
        sentence("23: 3 the PEAK has more than 16 NODES");
        // the PEAK is f(x h(x)): 2 and twice the SIZE of x
        Hands h = Hands.ruled("f(Ah(A))=b", "f(g(aaaaaa)B)=b", "f(g(aaaaaaa)B)=b", "f(B)=b");
        h.due("overlap(0, 1, 0)", 2).due("overlap(1, 0, 0)", 2).due("overlap(0, 2, 0)", 3).due("overlap(2, 0, 0)", 3);
        // what is outside of NODE i counts too: 1 + 15 and 1 + 16 NODES
        Hands out = Hands.ruled("f(Ag(A))=b", "g(h(aaaaa))=b", "g(h(aaaaaa))=b", "p(qf(Ag(A)))=b");
        out.due("overlap(0, 1, 2)", 1).due("peak(0, 1, 2, 0)", 14).due("overlap(0, 2, 2)", 1).due("peak(0, 2, 2, 0)", 16);
        out.due("overlap(3, 1, 4)", 1).due("peak(3, 1, 4, 0)", 16).due("overlap(3, 2, 4)", 3);
        sentence("23: 3 what is made of it has more than 16 NODES, by a or by b");
        Hands made = Hands.ruled("f(AB)=c(AAB)", "f(h(aaaaa)h(bb))=c", "f(h(aaaaa)h(bbb))=c");
        made.due("overlap(0, 1, 0)", 1).due("overlap(1, 0, 0)", 1).due("overlap(0, 2, 0)", 3).due("overlap(2, 0, 0)", 3);
        // by b at NODE 1, with 2 NODES outside of it: 14 and 2, 15 and 2
        Hands in = Hands.ruled("p(f(A)q)=c", "f(A)=g(aaaaaaaaaaaaA)", "f(A)=g(aaaaaaaaaaaaaA)");
        in.due("overlap(0, 1, 1)", 1).due("overlap(0, 2, 1)", 3);
        sentence("23: 1 what it WALKS to grows too far: it is not ended by 0 both");
        Hands.ruled("a=b", "a=c", "c=d(c)").due("overlap(0, 1, 0)", 1).due("overlap(1, 0, 0)", 1);
        Hands.ruled("a=b", "a=b", "b=d(b)").due("overlap(0, 1, 0)", 1);
    }

    private static void meets() {
        sentence("It MEETS, if both WALK to one and the same TREE (ended by 0 both)");
        Hands.ruled("a=b", "a=c").due("overlap(0, 1, 0)", 1);
        Hands.ruled("a=b", "a=c", "b=c").due("overlap(0, 1, 0)", 2);
        Hands.ruled("a=b", "a=c", "b=d", "c=d").due("overlap(0, 1, 0)", 2);
        Hands.ruled("a=b", "a=c", "b=d", "c=d", "d=d").due("overlap(0, 1, 0)", 1);
        Hands.ruled("a=b", "a=b", "b=b").due("overlap(0, 1, 0)", 1);
        Hands.ruled("a=b", "a=c", "c=c").due("overlap(0, 1, 0)", 1).due("overlap(1, 0, 0)", 1);
        sentence("HOLES being LABELS of their own (each unlike all others)");
        Hands.ruled("f(AB)=A", "f(AB)=B").due("overlap(0, 1, 0)", 1);
        Hands.ruled("f(A)=g(A)", "f(A)=h(A)", "g(a)=c", "h(a)=c").due("overlap(0, 1, 0)", 1);
        Hands.ruled("f(A)=g(A)", "f(A)=h(A)", "g(A)=c", "h(A)=c").due("overlap(0, 1, 0)", 2);
        Hands.ruled("f(AB)=g(AB)", "f(AB)=c", "g(AA)=c").due("overlap(0, 1, 0)", 1);
        Hands.ruled("f(AA)=g(AA)", "f(AB)=c", "g(AA)=c").due("overlap(0, 1, 0)", 2);
        sentence("what b makes of it at NODE i: that NODE of a's left, HOLES ahead of it being put in");
        // NODE 2 of the left TREE f(A g(A)) is NODE 4 of the PEAK f(h(ab) g(h(ab)))
        Hands.ruled("f(Ag(A))=k(A)", "g(h(AB))=m(BA)", "f(h(AB)m(BA))=k(h(AB))").due("overlap(0, 1, 2)", 2);
        sentence("MEETS: a WALK of 100 steps and one that FITS yet does not");
        // behind s there are 100 steps to the end, and 101
        counter("s=t(l(o(i(i(o(o(z)))))))", "s=t(l(o(i(i(o(o(z)))))))").due("overlap(4, 5, 0)", 2).due("overlap(5, 4, 0)", 2);
        counter("s=t(o(l(i(i(o(o(z)))))))", "s=t(o(l(i(i(o(o(z)))))))").due("overlap(4, 5, 0)", 1).due("overlap(5, 4, 0)", 1);
    }

    private static void peak() {
        sentence("24: TREE u becomes the PEAK (its HOLES A, B, and so on as written): NODES");
        Hands h = Hands.ruled("f(HG)=G", "f(g(C)D)=D", "f(AA)=A", "a=b").due("peak(0, 1, 0, 0)", 4).dueText(0, "f(g(A)B)");
        h.due("peak(1, 0, 0, 5)", 4).dueText(5, "f(g(A)B)").due("peak(2, 1, 0, 0)", 5).dueText(0, "f(g(A)g(A))");
        h.due("peak(0, 2, 0, 0)", 3).dueText(0, "f(AA)");
        Hands.ruled("a=b", "a=c").due("peak(0, 1, 0, 3)", 1).dueText(3, "a").due("told(23)", 0);
        sentence("24: UNKNOWN");
        refusedEach(BoundsTest::room, "peak(#, 1, 0, 5)", "-1 3 6 MIN MAX", UNKNOWN);
        refusedEach(BoundsTest::room, "peak(1, #, 0, 5)", "-1 3 6 MIN MAX", UNKNOWN);
        refusedEach(BoundsTest::room, "peak(1, 2, #, 5)", "-1 3 MIN MAX", UNKNOWN);
        refusedEach(BoundsTest::room, "peak(1, 2, 0, #)", NO_TREES, UNKNOWN);
        refusedEach(BoundsTest::sixRules, "peak(#, 0, 0, 0)", "-1 6 MIN MAX", UNKNOWN);
        sentence("24: NO, likewise");
        refusedEach(BoundsTest::room, "peak(0, 1, #, 5)", "1 2 3", NO);
        refusedEach(BoundsTest::room, "peak(0, 0, #, 5)", "0 1 2 3", NO);
        refused(BoundsTest::sixRules, "peak(5, 5, 0, 3)", NO);
        sentence("24: STATE: there is no OVERLAP");
        refusedEach(BoundsTest::room, "peak(0, #, 0, 5)", "1 2", STATE);
        refusedEach(BoundsTest::room, "peak(2, #, 1, 5)", "0 1 2", STATE);
        refused(x -> x.rules("f(AA)=A", "f(g(A)A)=A"), "peak(0, 1, 0, 0)", STATE);
        sentence("24: UNKNOWN is ahead of STATE, FULL and NO");
        refusedEach(BoundsTest::room, "peak(0, 1, 0, #)", NO_TREES, UNKNOWN);
        refusedEach(BoundsTest::room, "peak(0, 0, 0, #)", NO_TREES, UNKNOWN);
        refusedEach(BoundsTest::room, "peak(0, 1, 1, #)", NO_TREES, UNKNOWN);
        refusedEach(BoundsTest::room, "peak(0, #, 1, 5)", "-1 3 MIN MAX", UNKNOWN);
        refusedEach(x -> x.rules("f(Ah(A))=b", "f(g(aaaaaaa)B)=b"), "peak(0, 1, 0, #)", NO_TREES, UNKNOWN);
    }

    private static void peakFull() {
        sentence("24: FULL: more than 16 NODES");
        Hands.ruled("f(Ah(A))=b", "f(g(aaaaaa)B)=b").due("peak(0, 1, 0, 0)", 16).dueText(0, "f(g(aaaaaa)h(g(aaaaaa)))");
        Setup great = x -> x.rules("f(AAa)=b", "f(g(aaaaaaa)BB)=b", "f(g(aaaaaaa)BC)=b", "f(g(aaaaaa)BC)=b").put(0, "c");
        refused(great, "peak(0, 2, 0, 0)", FULL);
        refused(great, "peak(2, 0, 0, 3)", FULL);
        Hands less = new Hands();
        great.on(less);
        less.due("peak(0, 3, 0, 0)", 16).dueText(0, "f(g(aaaaaa)g(aaaaaa)a)");
        sentence("24: STATE is ahead of FULL: without OVERLAP there is no PEAK");
        refused(great, "peak(0, 1, 0, 0)", STATE);
        sentence("24: a HOLE is refused with NO, however great left of b is");
        refused(x -> x.rules("f(Ab)=b", FLAT16 + "=b"), "peak(0, 1, 1, 0)", NO);
        sentence("24: FULL: more than 8 HOLES");
        Hands.ruled("f(Ag(B))=a", "g(h(ABCDEFG))=b").due("peak(0, 1, 2, 0)", 11).dueText(0, "f(Ag(h(BCDEFGH)))").due("told(20)", 8);
        Setup nine = x -> x.rules("f(Ag(B))=a", "g(h(ABCDEFGH))=b").put(0, "c");
        refusedEach(nine, "peak(0, 1, 2, #)", "0 3 5", FULL);
        sentence("23: more than 8 HOLES are no hindrance to overlap");
        Hands h = Hands.ruled("f(Ag(B))=a", "g(h(ABCDEFGH))=b", "f(Ab)=a").due("overlap(0, 1, 2)", 2).due("overlaps(3)", 0);
        h.due("overlaps(1)", 1);
        Hands most = Hands.ruled("x(g(ABCDEFGa)H)=c", "g(ABCDEFGH)=h(ABCDEFG)", "x(h(ABCDEFG)H)=c").due("overlap(0, 1, 1)", 2);
        most.due("peak(0, 1, 1, 0)", 11).dueText(0, "x(g(ABCDEFGa)H)");
        Hands full = Hands.ruled("x(g(A)BCDEFGH)=x(ABCDEFGH)", "g(h(ABCDEF))=h(ABCDEF)").due("peak(0, 1, 1, 0)", FULL);
        full.due("overlap(0, 1, 1)", 2).due("told(10)", 0);
    }

    private static void overlapInTurn() {
        sentence("OVERLAP: no call leaves anything to the next");
        // at the first PARTS that differ there are others that were not looked at yet
        Hands h = Hands.ruled("f(abcdA)=b", "f(gbcdA)=b", "f(gbcda)=b", "f(AAbBA)=b", "f(CCbDD)=b", "h(AA)=a");
        h.due("overlap(0, 1, 0)", 0).due("overlap(1, 2, 0)", 2).due("peak(1, 2, 0, 0)", 6).dueText(0, "f(gbcda)");
        h.due("peak(3, 4, 0, 0)", 6).dueText(0, "f(AAbAA)").due("peak(4, 3, 0, 0)", 6).dueText(0, "f(AAbAA)");
        h.due("overlap(0, 2, 0)", 0).due("overlap(3, 4, 0)", 2).due("peak(1, 2, 0, 1)", 6).dueText(1, "f(gbcda)");
        Hands left = Hands.ruled("f(abcdA)=b", "f(gbcdA)=b", "f(abcda)=b", "f(abcdg)=b", "h(gk(x))=c", "k(x)=x");
        left.due("overlap(0, 1, 0)", 0).due("overlap(4, 5, 2)", 1).due("overlap(2, 3, 0)", 0).due("overlap(4, 5, 2)", 1);
        sentence("HOLES of the PEAK are A, B, and so on in each PEAK anew");
        Hands two = Hands.ruled("f(AB)=A", "f(CD)=D", "g(BA)=A", "g(CD)=C").due("peak(0, 1, 0, 0)", 3).dueText(0, "f(AB)");
        two.due("peak(2, 3, 0, 0)", 3).dueText(0, "g(AB)").due("peak(1, 0, 0, 0)", 3).dueText(0, "f(AB)");
        sentence("two HOLES that are put one for the other twice");
        Hands.ruled("f(AA)=b", "f(BB)=b").due("peak(0, 1, 0, 0)", 3).dueText(0, "f(AA)").due("overlap(0, 1, 0)", 2);
        sentence("MEETS: WALK (from within), both");
        // from without f(a) is c, from within it is d
        String[] ways = {"f(a)=c", "a=b", "f(b)=d"};
        Hands.ruled("s=f(a)", "s=d").rules(ways).due("overlap(0, 1, 0)", 2).due("overlap(1, 0, 0)", 2);
        Hands.ruled("s=f(a)", "s=c").rules(ways).due("overlap(0, 1, 0)", 1).due("overlap(1, 0, 0)", 1);
    }

    private static void dueOverlaps(Hands h, int all, int meet, int not, int great) {
        h.due("overlaps(0)", all).due("overlaps(1)", meet).due("overlaps(2)", not).due("overlaps(3)", great);
    }

    private static void overlaps() {
        sentence("25: Of all OVERLAPS (RULES, then NODES): 0 how many, 1 that MEET, 2 that do not, 3 too great");
        dueOverlaps(new Hands(), 0, 0, 0, 0);
        dueOverlaps(Hands.ruled("a=b"), 0, 0, 0, 0);
        dueOverlaps(Hands.ruled("f(A)=b"), 0, 0, 0, 0);
        dueOverlaps(Hands.ruled("f(f(A))=A"), 1, 1, 0, 0);
        dueOverlaps(Hands.ruled("a=b", "a=c"), 2, 0, 2, 0);
        dueOverlaps(Hands.ruled("a=b", "a=b"), 2, 2, 0, 0);
        dueOverlaps(Hands.ruled("f(Ah(A))=b", "f(g(aaaaaaa)B)=b"), 2, 0, 0, 2);
        dueOverlaps(Hands.ruled("f(Ah(A))=b", "f(g(aaaaaaa)B)=b", "f(AB)=c"), 6, 0, 4, 2);
        dueOverlaps(Hands.ruled("a=b", "a=b", "a=b", "a=b", "a=b", "a=b"), 30, 30, 0, 0);
        // the last RULE at the last NODE
        dueOverlaps(Hands.ruled("y=c", "m=b", "n=b", "o=b", "p=b", "x(abcdefghijklqry)=x(abcdefghijklqrc)"), 1, 1, 0, 0);
        sentence("25: told anew when a RULE comes or RULES go");
        Hands h = Hands.ruled("a=b");
        dueOverlaps(h, 0, 0, 0, 0);
        h.rules("a=c");
        dueOverlaps(h, 2, 0, 2, 0);
        h.rules("b=c");
        dueOverlaps(h, 2, 2, 0, 0);
        h.put(0, "A").due("rule(0, 4)", NO);
        dueOverlaps(h, 2, 2, 0, 0);
        h.due("clear()", 3);
        dueOverlaps(h, 0, 0, 0, 0);
        sentence("25: OUTSIDE");
        refusedEach(BoundsTest::room, "overlaps(#)", "-1 4 MIN MAX", OUTSIDE);
        refusedEach(x -> x.put(0, "a"), "overlaps(#)", "-1 4 MIN MAX", OUTSIDE);
    }

    private static void told() {
        sentence("26: 0 signs on the PAD, 1 RULES");
        Hands h = new Hands();
        for (int n = 0; n < 60; n++) h.due("told(0)", n).say("~");
        h.due("told(0)", 60).say("~").due("told(0)", 60);
        Hands r = Hands.with("a");
        for (int n = 0; n < 6; n++) r.due("told(1)", n).due("rule(0, 0)", n);
        r.due("told(1)", 6).due("rule(0, 0)", FULL).due("told(1)", 6);
        sentence("26: 10 to 15 NODES of TREES, 20 to 25 HOLES that they tell apart");
        String[] trees = {"a", "H", FLAT16, "x(ABCDEFGHHGFEDCB)", "a(AAA)", "a(HAH)"};
        int[] nodes = {1, 1, 16, 16, 4, 4};
        int[] holes = {0, 1, 0, 8, 1, 2};
        Hands t = Hands.with(trees);
        for (int k = 0; k < 6; k++) t.due("told(1" + k + ")", nodes[k]).due("told(2" + k + ")", holes[k]);
        sentence("26: OUTSIDE");
        for (int w = -30; w < 60; w++) {
            if (w == 0 || w == 1 || w >= 10 && w <= 15 || w >= 20 && w <= 25) continue;
            refused(BoundsTest::room, "told(" + w + ")", OUTSIDE);
        }
        refusedEach(BoundsTest::room, "told(#)", "MIN MAX -2147483638 -2147483628 -2147483639 -2147483629", OUTSIDE);
    }
}

import java.io.IOException;
import java.lang.reflect.Method;
import java.nio.file.Files;
import java.nio.file.Path;
import java.util.ArrayList;
import java.util.List;
import java.util.Set;
import java.util.TreeSet;
import java.util.regex.Matcher;
import java.util.regex.Pattern;

/**
 * The document from its first line to its last: each sentence in its own words, and behind it what would be answered
 * otherwise if it were broken. No sentence can be left out: what is quoted here must be, in order, all that
 * ../shared/DOC.md says, and something must be due behind each quote.
 */
public final class DocTest {
    private static final int NONE = -6, UNKNOWN = -1, OUTSIDE = -2, STATE = -3, FULL = -4, NO = -5;

    private static final Path DOCUMENT = Path.of("../shared/DOC.md");
    private static final Path CLASS = Path.of("src/main/java/TreeHands.java");
    private static final String FLAT16 = "a(bcdefghijklmnop)";
    private static final String FLAT17 = "a(bcdefghijklmnopq)";
    private static final String CHAIN16 = "a(a(a(a(a(a(a(a(a(a(a(a(a(a(a(b)))))))))))))))";

    private static String document = "";
    private static String face = "";
    private static int reached = 0;
    private static int sentences = 0;
    private static int checksAhead = 0;

    public static void main(String[] args) throws IOException {
        if (!Files.exists(DOCUMENT)) {
            System.out.println("DocTest: " + DOCUMENT + " is not here, so no one can tell whether all of it is quoted");
        } else {
            load(Files.readString(DOCUMENT));
        }
        whatItIs();
        refusals();
        termsOfTrees();
        termsOfEdits();
        termsOfCommon();
        termsOfRules();
        termsOfOverlaps();
        order(Files.readString(CLASS));
        promisesOfTrees();
        promisesOfEdits();
        promisesOfCommon();
        promisesOfRules();
        promisesOfOverlaps();
        notPromised();
        end();
        int wrong = Hands.wrong;
        System.out.println(wrong == 0 ? "DocTest: all " + sentences + " sentences hold" : "DocTest: " + wrong + " wrong");
        if (wrong != 0) System.exit(1);
    }

    // ---- the document

    /** Its sentences in one line, without headings and fences; the face is kept aside. */
    private static void load(String whole) {
        StringBuilder text = new StringBuilder();
        StringBuilder code = new StringBuilder();
        boolean isCode = false;
        for (String line : whole.split("\n")) {
            if (line.startsWith("```")) {
                isCode = line.equals("```java");
            } else if (isCode) {
                code.append(line.trim()).append('\n');
            } else if (!line.startsWith("#")) {
                text.append(line).append(' ');
            }
        }
        document = oneLine(text.toString());
        face = code.toString();
    }

    private static String oneLine(String text) {
        return text.trim().replaceAll("\\s+", " ");
    }

    /** What the document says next. */
    private static void says(String quote) {
        if (sentences > 0) require(Hands.checks > checksAhead, "nothing is due behind this sentence");
        checksAhead = Hands.checks;
        Hands.sentence = quote;
        sentences++;
        if (document.isEmpty()) return;
        String next = oneLine(quote);
        int at = Math.min(document.length(), sentences == 1 ? 0 : reached + 1);
        require(document.startsWith(next, at), "the document goes on with: "
            + document.substring(at, Math.min(document.length(), at + 80)));
        // where the next quote is looked for when this one is not found at its place
        int found = document.indexOf(next, at);
        if (found >= 0) reached = found + next.length();
    }

    private static void end() {
        Hands.sentence = "the end of the document";
        String rest = document.substring(Math.min(reached, document.length()));
        require(rest.trim().isEmpty(), "not quoted: " + rest.trim());
    }

    private static void require(boolean right, String otherwise) {
        if (!right) {
            Hands.wrong++;
            System.out.println(Hands.sentence + ": " + otherwise);
        }
    }

    private static void due(boolean right, String otherwise) {
        Hands.checks++;
        require(right, otherwise);
    }

    // ---- helpers

    private static void faultAt(String signs, int want) {
        new Hands().say(signs).due("fault()", want);
    }

    private static void dueRow(Hands h, int... row) {
        for (int i = 0; i < row.length; i++) h.due("led(0, 1, " + i + ")", row[i]);
    }

    private static void dueEdits(Hands h, int... want) {
        for (int w = 0; w < want.length; w++) h.due("edits(0, 1, " + w + ")", want[w]);
    }

    private static void dueMoved(Hands h, int... pairs) {
        for (int i = 0; i < pairs.length; i++) h.due("moved(0, 1, " + i + ")", pairs[i]);
        h.due("moved(0, 1, " + pairs.length + ")", NONE);
    }

    private static void dueCommon(String one, String two, int holes, String common) {
        Hands.with(one, two).due("common(0, 0, 1, 0, 2)", holes).dueText(2, common);
    }

    private static void dueTwice(String tree, int size, int first, int second) {
        Hands.with(tree).due("twice(0, 0)", size).due("twice(0, 1)", first).due("twice(0, 2)", second);
    }

    private static void dueFits(String rule, String tree, int want) {
        Hands.ruled(rule).put(0, tree).due("fits(0, 0)", want);
    }

    private static void dueMade(String rule, String tree, int i, String then) {
        Hands.ruled(rule).put(0, tree).due("make(0, " + i + ", 0)", then.replaceAll("[()]", "").length()).dueText(0, then);
    }

    private static void dueWalk(Hands h, String from, boolean within, int end, int steps, String to) {
        h.put(0, from).due("walk(0, " + within + ")", end).due("steps()", steps).dueText(0, to);
    }

    private static void duePeak(String a, String b, int i, String peak) {
        Hands.ruled(a, b).due("peak(0, 1, " + i + ", 0)", peak.replaceAll("[()]", "").length()).dueText(0, peak);
    }

    private static void dueOverlaps(Hands h, int all, int meet, int not, int great) {
        h.due("overlaps(0)", all).due("overlaps(1)", meet).due("overlaps(2)", not).due("overlaps(3)", great);
    }

    /** Counts in twos: r goes right over each i, makes the first o an i, and l goes back; one NODE FITS at a time. */
    private static Hands counter(String... more) {
        return Hands.ruled("r(i(A))=o(r(A))", "r(o(A))=l(i(A))", "o(l(A))=l(o(A))", "t(l(A))=t(r(A))").rules(more);
    }

    /** Something of all: TREE 3 is empty, 1 and 4 are not PLAIN; three RULES; a WALK; other PRICES; PAD m(nC). */
    private static Hands room() {
        Hands h = Hands.with("f(g(ab)g(ab)c)", "f(AbB)", "f(cg(ab))").rules("f(AAB)=h(BA)", "g(AB)=k(BA)", "g(aA)=A");
        h.put(5, "g(ac)").call("walk(5, true)");
        h.put(4, "A").call("price(0, 4)");
        h.call("price(1, 5)");
        h.call("price(2, 1)");
        return h.say("m(nC)");
    }

    // ---- what it is, and the face

    private static void whatItIs() {
        says("Two versions of a program as ordered trees: the least edits between them, over all pairs of pieces;");
        Hands h = Hands.with("f(ag(xy)c)", "f(cbg(xy))").due("price(2, 1)", 2).due("least(0, 1)", 7);
        says("which node stayed, was renamed, dropped, came; pieces that only moved;");
        // f and g(xy) stay, a is renamed c, the old c is dropped, b comes
        dueRow(h, 0, 1, 3, 4, 5, 99);
        dueEdits(h, 5, 1, 1, 1, 0, 0);
        dueMoved(Hands.with("f(ug(xy))", "f(g(xy)u)"), 104);
        says("the least pattern with holes that two pieces have in common, the greatest said twice;");
        dueCommon("f(ab)", "f(ac)", 1, "f(aA)");
        dueTwice("f(g(ab)g(ab)cc)", 3, 1, 4);
        says("rules with holes put to trees from without or within till nothing is left to do, it goes round or grows too far;");
        dueWalk(Hands.ruled("p(zA)=A", "p(s(A)B)=s(p(AB))"), "p(s(z)s(z))", true, 0, 2, "s(s(z))");
        dueWalk(Hands.ruled("f(AB)=f(BA)"), "f(ab)", false, 1, 2, "f(ab)");
        dueWalk(Hands.ruled("a=f(aa)"), "a", false, 2, 7, "f(f(f(f(f(f(f(aa)a)a)a)a)a)a)");
        says("rules that meet in one place, whether they meet again.");
        Hands.ruled("f(f(A))=A", "f(a)=b").due("overlap(0, 0, 1)", 2).due("overlap(0, 1, 1)", 1);

        says("An object is used for at most 512 calls after it has been made; what later calls answer is free.");
        Hands used = Hands.with("f(ab)", "f(b)");
        while (used.calls() < Hands.MOST_CALLS - 1) used.due("node(0, 2, 0)", 'b');
        used.due("least(0, 1)", 3);
        face();
    }

    /** The document's face, line by line, against the class. */
    private static void face() {
        if (face.isEmpty()) return;
        Hands.sentence = "The public face";
        Set<String> told = new TreeSet<>();
        Matcher m = Pattern.compile("public (int \\w+\\([^)]*\\));").matcher(face);
        while (m.find()) told.add(m.group(1).replaceAll("(int|boolean) \\w+(?=[,)])", "$1").replace(" ,", ","));
        Set<String> has = new TreeSet<>();
        for (Method one : TreeHands.class.getDeclaredMethods()) {
            if (!java.lang.reflect.Modifier.isPublic(one.getModifiers())) continue;
            List<String> types = new ArrayList<>();
            for (Class<?> type : one.getParameterTypes()) types.add(type.getName());
            has.add(one.getReturnType().getName() + " " + one.getName() + "(" + String.join(", ", types) + ")");
        }
        due(told.size() == 25 && told.equals(has), "methods are " + has + ", due are " + told);
        Matcher c = Pattern.compile("([A-Z]+) = (-\\d)").matcher(face);
        int constants = 0;
        while (c.find()) {
            constants++;
            try {
                int value = TreeHands.class.getField(c.group(1)).getInt(null);
                due(value == Integer.parseInt(c.group(2)), c.group(1) + " is " + value);
            } catch (ReflectiveOperationException e) {
                due(false, c.group(1) + " is not there");
            }
        }
        due(constants == 6, constants + " constants are told");
        due(face.contains("public final class TreeHands {") && face.contains("public TreeHands();"), "another class is told");
    }

    // ---- Terms

    private static void refusals() {
        says("Calls that are refused answer, the first of these that fits:");
        // two fit each
        room().due("node(6, 0, 9)", UNKNOWN).due("twice(3, 9)", UNKNOWN).due("edits(0, 3, 9)", UNKNOWN);
        room().due("fits(1, 9)", UNKNOWN).due("make(1, 0, 3)", UNKNOWN).due("common(1, 0, 0, 0, 6)", UNKNOWN);
        room().due("overlap(0, 3, 1)", UNKNOWN).due("peak(0, 1, 0, 6)", UNKNOWN).due("rule(4, 3)", UNKNOWN);
        new Hands().say("!").due("read(6)", UNKNOWN).due("wipe()", 1).say(FLAT17).due("read(6)", UNKNOWN);
        new Hands().say("a".repeat(60)).due("say(32)", OUTSIDE);
        Hands.ruled("a=b").put(0, "f(A)").due("make(0, 0, 0)", STATE).put(1, "f(Aabcdefgh)").put(2, "f(abcdefghi)")
            .due("common(1, 0, 2, 0, 3)", STATE);
        Hands.ruled("a=b", "a=b", "a=b", "a=b", "a=b", "a=b").put(0, "A").due("rule(0, 4)", FULL).due("rule(4, 0)", FULL);
        says("UNKNOWN -1 (there is no such TREE, NODE, RULE),");
        room().due("node(6, 0, 0)", -1).due("node(-1, 0, 0)", -1).due("node(0, 8, 0)", -1).due("node(0, -1, 0)", -1)
            .due("make(0, 0, 3)", -1);
        says("OUTSIDE -2 (another number is not as told),");
        room().due("say(32)", -2).due("node(0, 0, 6)", -2).due("price(3, 0)", -2).due("price(0, 10)", -2)
            .due("edits(0, 2, 6)", -2);
        room().due("twice(0, 3)", -2).due("overlaps(4)", -2).due("told(2)", -2);
        says("STATE -3 (as told),");
        room().due("common(0, 0, 1, 0, 5)", -3).due("fits(1, 0)", -3).due("make(1, 0, 0)", -3).due("walk(1, true)", -3)
            .due("peak(0, 1, 0, 5)", -3);
        says("FULL -4,");
        new Hands().say("a".repeat(60)).due("say(97)", -4).due("wipe()", 60).say(FLAT17).due("read(0)", -4);
        Hands.ruled("b=c(d)").put(0, FLAT16).due("make(0, 1, 0)", -4);
        says("NO -5 (as told).");
        room().due("make(0, 1, 0)", -5).due("rule(4, 4)", -5).due("overlap(0, 0, 0)", -5).due("peak(0, 0, 0, 5)", -5);
        new Hands().due("read(0)", -5);

        says("They change nothing.");
        String[] refused = {
            "say(127)", "read(6)", "node(0, 0, 6)", "sign(3, 0)", "take(0, 8, 1)", "take(0, 0, 6)", "alike(0, 0, 3, 0)",
            "price(0, 10)", "price(3, 1)", "least(0, 3)", "led(0, 2, 8)", "edits(0, 2, 6)", "moved(3, 0, 0)",
            "common(0, 0, 1, 0, 5)", "common(0, 0, 2, 8, 5)", "twice(0, 3)", "rule(4, 0)", "rule(0, 1)", "rule(0, 3)",
            "fits(1, 0)", "make(0, 1, 0)", "make(1, 0, 0)", "walk(1, true)", "walk(3, true)", "overlap(0, 0, 0)",
            "peak(0, 0, 0, 0)", "peak(0, 1, 0, 0)", "overlaps(4)", "told(2)"
        };
        Hands asked = room();
        for (String call : refused) due(asked.call(call) < 0, call + " is not refused");
        String was = room().state();
        String is = asked.state();
        due(is.equals(was), "it is " + is + ", and was " + was);
        Hands full = Hands.with("c").say("a" + "b".repeat(59)).due("say(98)", FULL).due("read(0)", NO).due("told(0)", 60)
            .dueText(0, "c");
        full.due("wipe()", 60).say(FLAT17).due("read(0)", FULL).due("told(0)", 19).dueText(0, "c");
    }

    private static void termsOfTrees() {
        says("======== 1 A TREE is written: a LABEL (a to z), or a HOLE (A to H), or a LABEL with ( one or more TREES ) behind it.");
        for (char c = 33; c <= 126; c++) {
            boolean is = c >= 'a' && c <= 'z' || c >= 'A' && c <= 'H';
            faultAt("" + c, is ? NONE : 0);
            faultAt("f(" + c + ")", is ? NONE : 2);
            faultAt(c + "(a)", c >= 'a' && c <= 'z' ? NONE : is ? 1 : 0);
        }
        faultAt("f(ab)", NONE);
        faultAt("f(g(A)h(b(c)D))", NONE);
        faultAt("f()", 2);
        faultAt("ab", 1);
        faultAt("f(a)b", 4);
        faultAt("f(a)(b)", 4);
        faultAt("f((a))", 2);

        says("PAD: signs (codes 33 to 126), 60 at most.");
        Hands h = new Hands().due("say(32)", OUTSIDE).due("say(127)", OUTSIDE).due("say(33)", 1).due("say(126)", 2);
        for (int n = 3; n <= 60; n++) h.due("say(80)", n);
        h.due("say(80)", FULL);

        says("THE FAULT: the first place (from 0 on; behind the last sign: their number) at which no sign could make a TREE go on as it stands");
        faultAt("!a!", 0);
        faultAt("f(!)!", 2);
        faultAt("", 0);
        faultAt("f(", 2);
        faultAt("f(a", 3);
        faultAt("f(g(a)", 6);
        faultAt("f(" + "a".repeat(58), 60);
        says("(how many NODES it has does not matter for that).");
        faultAt(FLAT17, NONE);
        faultAt("f(" + "a".repeat(57) + ")", NONE);
        faultAt("f(" + "a".repeat(20), 22);

        says("TREES 0 to 5 have 16 NODES at most (none at first), numbered as they are written;");
        Hands six = new Hands();
        for (int t = 0; t < 6; t++) six.due("told(1" + t + ")", 0).put(t, "a").due("told(1" + t + ")", 1);
        six.say("a").due("read(6)", UNKNOWN).due("read(-1)", UNKNOWN).due("wipe()", 1);
        six.say(FLAT16).due("read(0)", 16).say(FLAT17).due("read(0)", FULL);
        Hands.with("f(g(ab)c)").due("node(0, 0, 0)", 'f').due("node(0, 1, 0)", 'g').due("node(0, 2, 0)", 'a')
            .due("node(0, 3, 0)", 'b').due("node(0, 4, 0)", 'c');
        says("one is PLAIN, if it has no HOLE.");
        Hands.with("f(ab)", "f(aA)", "H").due("fits(0, 1)", 0).due("fits(1, 1)", STATE).due("fits(2, 0)", STATE);

        says("PARTS of a NODE: TREES right in it.");
        Hands.with("f(g(ab)c)").due("node(0, 0, 3)", 2).due("node(0, 1, 3)", 2).due("node(0, 2, 3)", 0).due("node(0, 3, 1)", 1)
            .due("node(0, 4, 1)", 0);
        says("SIZE of a NODE: NODES of its TREE, it too.");
        Hands.with("f(g(ab)c)").due("node(0, 0, 4)", 5).due("node(0, 1, 4)", 3).due("node(0, 2, 4)", 1).due("node(0, 4, 4)", 1);
        says("Two NODES are ALIKE, if their TREES are written alike.");
        Hands.with("f(g(ab)g(ab)g(ba)h(ab)g(a(b)))", "g(ab)").due("alike(0, 1, 0, 4)", 1).due("alike(0, 1, 1, 0)", 1)
            .due("alike(0, 1, 0, 7)", 0)
            .due("alike(0, 1, 0, 10)", 0).due("alike(0, 1, 0, 13)", 0).due("alike(0, 2, 0, 9)", 1);
    }

    private static void termsOfEdits() {
        says("======== 2 PRICES (0 to 9): 0 DROP (3 at first), 1 ADD (3), 2 RENAME (2).");
        for (int w = 0; w < 3; w++) {
            Hands h = new Hands().due("price(" + w + ", 10)", OUTSIDE).due("price(" + w + ", -1)", OUTSIDE);
            h.due("price(" + w + ", 9)", w == 2 ? 2 : 3).due("price(" + w + ", 0)", 9).due("price(" + w + ", 0)", 0);
        }
        Hands.with("f(a)", "f", "g").due("least(0, 1)", 3).due("least(1, 0)", 3).due("least(1, 2)", 2);
        Hands.with("f(a)", "f", "g").due("price(0, 9)", 3).due("least(0, 1)", 9).due("least(1, 0)", 3).due("price(1, 8)", 3)
            .due("least(1, 0)", 8)
            .due("price(2, 7)", 2).due("least(1, 2)", 7);

        says("A LEADING of TREE s to t: some NODES of s, each to one of t, no two to one,");
        dueRow(Hands.with("a(aa)", "a(a)").due("least(0, 1)", 3), 0, 1, 99);
        Hands.with("a(aa)", "a").due("price(0, 9)", 3).due("least(0, 1)", 18);
        says("such that of two led ones the first lies within the second just if their partners do,");
        // b is within c there, beside it here: one of them goes, though names are free
        dueRow(Hands.with("a(c(b))", "a(bc)").due("price(2, 0)", 2).due("least(0, 1)", 6), 0, 1, 99);
        dueRow(Hands.with("a(bc)", "a(c(b))").due("price(2, 0)", 2).due("least(0, 1)", 6), 0, 1, 99);
        says("and else is ahead of it (as written) just if they are.");
        dueRow(Hands.with("a(bc)", "a(cb)").due("price(2, 9)", 2).due("least(0, 1)", 6), 0, 2, 99);
        dueRow(Hands.with("a(b(x)c(y))", "a(c(y)b(x))").due("price(2, 9)", 2).due("least(0, 1)", 12), 0, 3, 4, 99, 99);
        says("(HOLES are LABELS here.)");
        Hands.with("f(A)", "f(B)", "f(a)").due("least(0, 0)", 0).due("least(0, 1)", 2).due("least(0, 2)", 2)
            .due("led(0, 1, 1)", 1);
        says("Its PRICE: DROP for each NODE of s that is not led, ADD for each of t that none is led to, RENAME for each led to one of another LABEL.");
        Hands price = Hands.with("a(bc)", "a(x)").due("price(0, 5)", 3).due("price(1, 7)", 3).due("price(2, 1)", 2);
        price.due("least(0, 1)", 1 + 5).due("least(1, 0)", 1 + 7).put(2, "m(no)").due("least(0, 2)", 3);
        // no led ones at all: two dropped, three added
        Hands.with("b(c)", "m(no)").due("price(0, 2)", 3).due("price(1, 1)", 3).due("price(2, 9)", 2)
            .due("least(0, 1)", 2 * 2 + 3);
        says("THE LEAST: the LEADING of the least PRICE, of several the first by rows: for each NODE of s, in order, its partner, or 99 without one.");
        dueRow(Hands.with("f(ab)", "f(ba)").due("least(0, 1)", 4), 0, 1, 2);
        dueRow(Hands.with("a", "b").due("price(2, 6)", 2).due("least(0, 1)", 6), 0);
        dueRow(Hands.with("a", "b").due("price(2, 7)", 2).due("least(0, 1)", 6), 99);
        dueRow(Hands.with("f(a)", "f(aba)"), 0, 1);
        dueRow(Hands.with("f(aba)", "f(a)"), 0, 1, 99, 99);
        dueRow(Hands.with("f(aab)", "f(ba)").due("price(2, 9)", 2).due("least(0, 1)", 9), 0, 2, 99, 99);
        // the row goes by its last NODES, too, when the first are the same
        dueRow(Hands.with("a(bcdefghijklmnpp)", "a(bcdefghijklmnp)"), 0, 1, 2, 3, 4, 5, 6, 7, 8, 9, 10, 11, 12, 13, 14, 99);
        dueRow(Hands.with("a(bcdefghijklmppn)", "a(bcdefghijklmnp)")
            .due("price(2, 9)", 2), 0, 1, 2, 3, 4, 5, 6, 7, 8, 9, 10, 11, 12, 14, 99, 99);
        // all is free: the first row leads all that can be, whatever the names
        dueRow(Hands.with("b(ac)", "a(c)").due("price(0, 0)", 3).due("price(1, 0)", 3).due("price(2, 0)", 2), 0, 1, 99);

        says("MOVED: of NODES of s that are not led, all whose NODES are not (nor of what lies within), and such of t that none is led to, likewise:");
        dueMoved(Hands.with("f(aa)", "f(a)"));
        dueMoved(Hands.with("f(a)", "f(aa)"));
        // p is dropped, but q within it is led: p(q) has not moved, nor has it the other way round
        dueMoved(Hands.with("f(p(q)g(abc))", "f(qg(abc)p(q))").due("price(2, 9)", 2).due("least(0, 1)", 9));
        dueMoved(Hands.with("f(qg(abc)p(q))", "f(p(q)g(abc))").due("price(2, 9)", 2).due("least(0, 1)", 9));
        says("those that are ALIKE:");
        dueMoved(Hands.with("f(p(q)g(abc))", "f(g(abc)p(q))").due("price(2, 9)", 2), 105);
        dueMoved(Hands.with("f(p(q)g(abc))", "f(g(abc)p(r))").due("price(2, 9)", 2));
        says("taken greatest SIZE first, then the first of s, then the first of t,");
        dueMoved(Hands.with("f(xp(q)g(abcd))", "f(g(abcd)xp(q))").due("price(2, 9)", 2), 207, 106);
        dueMoved(Hands.with("f(xxg(abc))", "f(g(abc)xx)").due("price(2, 9)", 2), 105, 206);
        dueMoved(Hands.with("f(yxg(abc))", "f(g(abc)xy)").due("price(2, 9)", 2), 106, 205);
        says("as long as none of it was taken: pairs.");
        // q within p(q) is taken with it, so the q that is left has none to go with
        dueMoved(Hands.with("f(p(q)g(abc))", "f(g(abc)p(q)q)").due("price(2, 9)", 2), 105);
        dueMoved(Hands.with("f(p(q)qg(abcd))", "f(g(abcd)p(q))").due("price(2, 9)", 2), 106);
    }

    private static void termsOfCommon() {
        says("======== 3 COMMON of NODE i of s and NODE k of t: the TREE that has, if both have one LABEL and as many PARTS, that LABEL with COMMON of PARTS in order;");
        dueCommon("f(g(ab)c)", "f(g(ab)c)", 0, "f(g(ab)c)");
        dueCommon("f(g(ab)c)", "f(g(xb)y)", 2, "f(g(Ab)B)");
        dueCommon("f(ab)", "f(abc)", 1, "A");
        dueCommon("f(ab)", "g(ab)", 1, "A");
        dueCommon(FLAT16, FLAT16, 0, FLAT16);
        dueCommon(CHAIN16, CHAIN16.replace("b", "c"), 1, CHAIN16.replace("b", "A"));
        // what is behind NODE i and NODE k in their TREES is not of it
        Hands.with("f(g(ab)cd)", "h(ig(xb)yd)").due("common(0, 1, 1, 2, 2)", 1).dueText(2, "g(Ab)").due("told(12)", 3);
        says("else a HOLE: the same for the same two TREES (ALIKE both), else the next one (A, B, and so on as written; more than 8: it can not be told).");
        dueCommon("f(aba)", "f(xyx)", 2, "f(ABA)");
        dueCommon("f(aa)", "f(xy)", 2, "f(AB)");
        dueCommon("f(ab)", "f(xx)", 2, "f(AB)");
        dueCommon("f(ab)", "f(ba)", 2, "f(AB)");
        dueCommon("f(g(ab)g(ab))", "f(ii)", 1, "f(AA)");
        dueCommon("x(abcdefgha)", "x(bcdefghib)", 8, "x(ABCDEFGHA)");
        Hands.with("x(abcdefghi)", "x(bcdefghij)").due("common(0, 0, 1, 0, 2)", NO);

        says("SAID TWICE in a TREE: two NODES that are ALIKE, neither within the other: the pair with the greatest SIZE, of several the first of the one, then of the other.");
        dueTwice("f(ccg(ab)g(ab))", 3, 3, 6);
        dueTwice("f(abba)", 1, 1, 4);
        dueTwice("f(aaa)", 1, 1, 2);
        dueTwice("f(abc)", NONE, NONE, NONE);
        dueTwice("a(a(a))", NONE, NONE, NONE);
    }

    private static void termsOfRules() {
        says("======== 4 RULES, 6 at most, numbered from 0 on: a left and a right TREE (of TREES told): left is no HOLE, every HOLE of right is in left.");
        Hands six = Hands.with("a", "b", "A", "f(A)", "f(B)");
        for (int r = 0; r < 6; r++) six.due("rule(0, 1)", r);
        six.due("rule(0, 1)", FULL);
        Hands holes = Hands.with("a", "b", "A", "f(A)", "f(B)").due("rule(2, 0)", NO).due("rule(2, 2)", NO).due("rule(0, 2)", NO);
        holes.due("rule(3, 4)", NO).due("rule(3, 2)", 0).due("rule(3, 0)", 1).due("rule(3, 3)", 2).due("told(1)", 3);
        // it is of the TREES as they were told
        Hands.with("a", "b").due("rule(0, 1)", 0).put(0, "c").put(1, "d").put(2, "a").due("make(2, 0, 0)", 1).dueText(2, "b");

        says("A RULE FITS a NODE of a PLAIN TREE, if HOLES of left can be put TREES for (one HOLE ALIKE everywhere) so that it is that NODE's.");
        dueFits("f(AB)=a", "f(g(c)d)", 1);
        dueFits("f(AB)=a", "f(cc)", 1);
        dueFits("f(AA)=a", "f(g(c)g(c))", 1);
        dueFits("f(AA)=a", "f(g(c)g(d))", 0);
        dueFits("f(AB)=a", "f(c)", 0);
        dueFits("f(AB)=a", "f(cde)", 0);
        dueFits("f(AB)=a", "g(cd)", 0);
        dueFits("f(g(A))=a", "f(c)", 0);
        dueFits("f=a", "f(c)", 0);
        Hands.ruled("g(A)=a").put(0, "f(g(b)c)").due("fits(0, 0)", 0).due("fits(0, 1)", 1).due("fits(0, 2)", 0).put(1, "g(B)")
            .due("fits(1, 0)", STATE);
        says("DONE there: the NODE's TREE becomes right with HOLES put in so.");
        dueMade("g(AB)=h(BAB)", "f(cg(d(e)b)c)", 2, "f(ch(bd(e)b)c)");
        dueMade("g(AB)=B", "f(cg(d(e)b)c)", 2, "f(cbc)");
        dueMade("a=b(c)", "a", 0, "b(c)");

        says("A WALK of a PLAIN TREE: step by step the first NODE that a RULE FITS, from without (NODES as written)");
        // each NODE done is marked by what it becomes; the last step would grow too far, so the WALK stops there
        String great = "a=x(xxxxxxxxxxxxxxx)";
        dueWalk(Hands.ruled("g(A)=h(A)", great, "b=c"), "f(bg(a)b)", false, 2, 2, "f(ch(a)b)");
        dueWalk(Hands.ruled("f(A)=d", "a=b"), "f(a)", false, 0, 1, "d");
        dueWalk(Hands.ruled("a=b"), "f(aa)", false, 0, 2, "f(bb)");
        says("or from within (each behind all that lies within it; of several such as written),");
        dueWalk(Hands.ruled("g(A)=h(A)", great, "b=c"), "f(bg(a)b)", true, 2, 1, "f(cg(a)b)");
        dueWalk(Hands.ruled("g(A)=h(A)", great, "b=c"), "f(g(b)g(d)a)", true, 2, 3, "f(h(c)h(d)a)");
        dueWalk(Hands.ruled("f(A)=d", "a=b"), "f(a)", true, 0, 2, "d");
        // NODE 0 comes last in each WALK, also behind one of a greater TREE
        Hands again = Hands.ruled("f(A)=d", "a=b");
        dueWalk(again, "f(h(a))", true, 0, 2, "d");
        dueWalk(again, "f(a)", true, 0, 2, "d");
        // g(b) is done ahead of a, though a lies deeper
        dueWalk(Hands.ruled("g(A)=h(A)", great), "f(g(b)k(l(a)))", true, 2, 1, "f(h(b)k(l(a)))");
        says("with the first RULE that FITS it, till:");
        dueWalk(Hands.ruled("a=b", "a=c"), "f(a)", false, 0, 1, "f(b)");
        dueWalk(Hands.ruled("a=c", "a=b"), "f(a)", true, 0, 1, "f(c)");
        walkEnds();
    }

    private static void walkEnds() {
        says("0 none FITS,");
        dueWalk(Hands.ruled("a=b"), "c", false, 0, 0, "c");
        dueWalk(Hands.ruled("a=b"), "f(aaa)", true, 0, 3, "f(bbb)");
        dueWalk(counter("r(z)=z"), "t(r(o(i(i(o(o(z)))))))", true, 0, 100, "t(o(o(o(o(o(z))))))");
        says("1 it is as it was behind an earlier step (or at first),");
        dueWalk(Hands.ruled("a=a"), "a", false, 1, 1, "a");
        dueWalk(Hands.ruled("a=b", "b=a"), "a", false, 1, 2, "a");
        dueWalk(Hands.ruled("a=b", "b=c", "c=b"), "a", true, 1, 3, "b");
        dueWalk(counter("r(z)=l(z)", "r(y)=l(z)"), "t(l(o(i(i(o(y))))))", true, 1, 100, "t(o(o(o(o(l(z))))))");
        // another TREE with as many NODES, or the same LABELS, is not as it was
        dueWalk(Hands.ruled("f(a(x)b)=e(bxb)"), "f(a(x)b)", false, 0, 1, "e(bxb)");
        dueWalk(Hands.ruled("f(a(x)b)=f(ax(b))"), "f(a(x)b)", true, 0, 1, "f(ax(b))");
        says("3 100 steps are done and one FITS yet,");
        dueWalk(counter("r(z)=z"), "t(l(o(i(i(o(o(z)))))))", true, 3, 100, "t(o(o(o(o(o(r(z)))))))");
        dueWalk(counter("r(z)=l(z)", "r(y)=l(z)"), "t(o(l(i(i(o(y))))))", false, 3, 100, "t(o(o(o(o(r(z))))))");
        dueWalk(counter("r(z)=z(zzzzzzzzzzzzzzz)"), "t(l(o(i(i(o(o(z)))))))", false, 3, 100, "t(o(o(o(o(o(r(z)))))))");
        says("2 it would have more than 16 NODES by the next one.");
        dueWalk(Hands.ruled("a=x(xxxxxxxxxxxxxxx)"), "a", true, 0, 1, "x(xxxxxxxxxxxxxxx)");
        dueWalk(Hands.ruled("a=x(xxxxxxxxxxxxxxx)"), "f(a)", true, 2, 0, "f(a)");
        dueWalk(Hands.ruled("a=b(a)"), "a", false, 2, 15, CHAIN16.replace('b', '!').replace('a', 'b').replace('!', 'a'));
        dueWalk(Hands.ruled("a=x(xxxxxxxxxxxxxxx)", "a=b", "c=d"), "f(ac)", false, 2, 0, "f(ac)");
    }

    private static void termsOfOverlaps() {
        says("======== 5 OVERLAP of RULE a and RULE b at NODE i of a's left (no HOLE; not NODE 0, if a and b are one):");
        Hands one = Hands.ruled("f(f(A))=A", "f(f(A))=A").due("overlap(0, 0, 0)", NO).due("overlap(0, 0, 1)", 2)
            .due("overlap(0, 0, 2)", NO);
        one.due("overlap(0, 1, 0)", 2).due("overlap(1, 0, 0)", 2).due("overlap(0, 1, 2)", NO).due("overlap(0, 0, 3)", UNKNOWN);
        // NODE i is of a's left, and all of b's left comes there
        Hands in = Hands.ruled("f(g(A)b)=b", "g(c)=b").due("overlap(0, 1, 0)", 0).due("overlap(0, 1, 1)", 1)
            .due("overlap(0, 1, 3)", 0).due("overlap(1, 0, 0)", 0);
        in.due("overlap(1, 0, 1)", 0);
        says("both HOLES held for different, HOLES can be put TREES with HOLES for so that left of b is what is at NODE i of left of a");
        duePeak("f(Ab)=A", "f(g(A)B)=A", 0, "f(g(A)b)");
        duePeak("f(AB)=A", "f(BA)=A", 0, "f(AB)");
        duePeak("f(f(A))=A", "f(f(A))=A", 1, "f(f(f(A)))");
        Hands.ruled("f(ab)=c", "f(AA)=c", "f(Ac)=c", "f(AB)=c").due("overlap(0, 1, 0)", 0).due("overlap(0, 2, 0)", 0)
            .due("overlap(0, 3, 0)", 2).due("overlap(1, 2, 0)", 2);
        says("(in the most general way; a HOLE is never put a TREE with itself within).");
        duePeak("f(AB)=A", "f(AB)=A", 0, "f(AB)");
        duePeak("f(ABC)=A", "f(AAB)=A", 0, "f(AAB)");
        duePeak("f(AAB)=A", "f(ABB)=A", 0, "f(AAA)");
        Hands.ruled("f(AA)=c", "f(g(A)A)=c", "f(Ag(A))=c").due("overlap(0, 1, 0)", 0).due("overlap(1, 0, 0)", 0)
            .due("overlap(1, 2, 0)", 0).due("overlaps(0)", 0);
        says("The PEAK: left of a so put.");
        duePeak("f(Ag(A))=c", "g(h(B))=c", 2, "f(h(A)g(h(A)))");
        duePeak("p(f(AB)C)=A", "f(aA)=A", 1, "p(f(aA)B)");

        says("It MEETS, if both what a makes of it at NODE 0 and what b makes of it at NODE i, HOLES being LABELS of their own (each unlike all others), WALK (from within) to one and the same TREE (ended by 0 both).");
        Hands.ruled("a=b", "a=c").due("overlap(0, 1, 0)", 1).rules("b=d", "c=d").due("overlap(0, 1, 0)", 2).rules("d=d")
            .due("overlap(0, 1, 0)", 1);
        Hands.ruled("f(AB)=A", "f(AB)=B").due("overlap(0, 1, 0)", 1);
        Hands.ruled("f(A)=g(A)", "f(A)=h(A)", "g(a)=c", "h(a)=c").due("overlap(0, 1, 0)", 1).rules("g(A)=c", "h(A)=c")
            .due("overlap(0, 1, 0)", 2);
        // NODE 2 of f(A g(A)) is NODE 4 of the PEAK f(h(ab) g(h(ab)))
        Hands.ruled("f(Ag(A))=k(A)", "g(h(AB))=m(BA)", "f(h(AB)m(BA))=k(h(AB))").due("overlap(0, 1, 2)", 2);
        // what b makes counts, though a WALK of the PEAK would take another RULE there
        Hands.ruled("f(g(a))=p", "g(a)=r", "g(a)=q", "f(q)=p").due("overlap(0, 2, 1)", 2).due("overlap(0, 1, 1)", 1);
        Hands.ruled("f(Ag(A))=k(A)", "g(h(A))=r", "g(h(A))=m", "f(h(A)m)=k(h(A))").due("overlap(0, 2, 2)", 2)
            .due("overlap(0, 1, 2)", 1);
        // from within e(a) is d, from without it is c
        Hands.ruled("s=e(a)", "s=d", "e(a)=c", "a=b", "e(b)=d").due("overlap(0, 1, 0)", 2).due("overlap(1, 0, 0)", 2);
        Hands.ruled("s=e(a)", "s=c", "e(a)=c", "a=b", "e(b)=d").due("overlap(0, 1, 0)", 1).due("overlap(1, 0, 0)", 1);
        // alike ends are not enough: the one goes round, or grows too far
        Hands.ruled("a=b", "a=b", "b=b").due("overlap(0, 1, 0)", 1);
        Hands.ruled("a=b", "a=b", "b=f(b)").due("overlap(0, 1, 0)", 1);
    }

    /** The heads of the interface, as comments ahead of the methods. */
    private static void order(String text) {
        headed(text, "Ahead of the calls `say`, `wipe`, `fault`, `read`, `node`, `sign`, `take`, `alike` the interface says: ---- 1 trees.");
        headed(text, "Ahead of the calls `price`, `least`, `led`, `edits`, `moved` the interface says: ---- 2 edits.");
        headed(text, "Ahead of the calls `common`, `twice` the interface says: ---- 3 common.");
        headed(text, "Ahead of the calls `rule`, `clear`, `fits`, `make`, `walk`, `steps` the interface says: ---- 4 rules.");
        headed(text, "Ahead of the calls `overlap`, `peak`, `overlaps`, `told` the interface says: ---- 5 overlaps.");
    }

    private static void headed(String text, String sentence) {
        says(sentence);
        String head = "// " + sentence.substring(sentence.indexOf("----"), sentence.length() - 1) + "\n";
        int start = text.indexOf(head);
        int end = text.indexOf("// ----", start + 1);
        due(start >= 0 && end > start, "there is no " + head.trim());
        if (start < 0 || end < start) return;
        List<String> told = new ArrayList<>();
        Matcher names = Pattern.compile("`(\\w+)`").matcher(sentence);
        while (names.find()) told.add(names.group(1));
        List<String> has = new ArrayList<>();
        Matcher methods = Pattern.compile("public int (\\w+)\\(").matcher(text.substring(start, end));
        while (methods.find()) has.add(methods.group(1));
        due(told.equals(has), "behind it come " + has);
    }

    // ---- Promises

    private static void promisesOfTrees() {
        says("`TreeHands()`: PAD is empty; TREES are, too; no RULES.");
        Hands made = new Hands().due("told(0)", 0).due("fault()", 0).due("told(1)", 0).due("overlaps(0)", 0).due("clear()", 0);
        for (int t = 0; t < 6; t++) made.due("told(1" + t + ")", 0).due("sign(" + t + ", -1)", UNKNOWN)
            .due("node(" + t + ", 0, 0)", UNKNOWN);

        says("`int say(int sign)`: A sign more: how many.");
        new Hands().due("say(97)", 1).due("say(40)", 2).due("say(98)", 3).due("say(41)", 4).due("fault()", NONE)
            .due("read(0)", 2).dueText(0, "a(b)").due("say(97)", 1);
        says("OUTSIDE; FULL.");
        new Hands().due("say(32)", OUTSIDE).due("say(127)", OUTSIDE).due("say(MIN)", OUTSIDE).due("say(MAX)", OUTSIDE)
            .say("(".repeat(60)).due("say(40)", FULL);

        says("`int wipe()`: Signs go: how many there were.");
        new Hands().due("wipe()", 0).say("a(b").due("wipe()", 3).due("wipe()", 0).due("told(0)", 0).say("c").due("read(0)", 1)
            .dueText(0, "c");

        says("`int fault()`: THE FAULT; NONE.");
        new Hands().due("fault()", 0).say("a").due("fault()", NONE).say("(").due("fault()", 2).say("b").due("fault()", 3)
            .say(")").due("fault()", NONE).say(")").due("fault()", 4);

        says("`int read(int t)`: A TREE becomes what is on the PAD (it is empty then): NODES.");
        for (int t = 0; t < 6; t++) {
            Hands h = new Hands().say("a(bC)").due("read(" + t + ")", 3).due("told(0)", 0).dueText(t, "a(bC)");
            for (int u = 0; u < 6; u++) h.due("told(1" + u + ")", u == t ? 3 : 0);
            h.put(t, "d").dueText(t, "d");
        }
        says("UNKNOWN; FULL: more than 16 NODES; NO: there is a FAULT (ahead).");
        new Hands().say("a").due("read(-1)", UNKNOWN).due("read(6)", UNKNOWN).due("told(0)", 1).due("wipe()", 1)
            .due("read(6)", UNKNOWN);
        new Hands().say(FLAT16).due("read(0)", 16).say(FLAT17).due("read(0)", FULL).due("told(0)", 19).say("!")
            .due("read(0)", NO).due("told(0)", 20).dueText(0, FLAT16);
        new Hands().due("read(0)", NO).say("a(").due("read(0)", NO).due("told(0)", 2);

        says("`int node(int t, int i, int what)`: Of a NODE: 0 its LABEL (sign), 1 the NODE whose PART it is (NONE), 2 which PART (NONE), 3 how many PARTS, 4 SIZE, 5 how deep (0: NODE 0).");
        int[][] want = {{'f', NONE, NONE, 2, 6, 0}, {'g', 0, 0, 2, 4, 1}, {'a', 1, 0, 0, 1, 2}, {'h', 1, 1, 1, 2, 2}, {'B', 3, 0, 0, 1, 3}, {'c', 0, 1, 0, 1, 1}};
        Hands nodes = Hands.with("f(g(ah(B))c)");
        for (int i = 0; i < want.length; i++) {
            for (int w = 0; w < 6; w++) nodes.due("node(0, " + i + ", " + w + ")", want[i][w]);
        }
        nodes.due("take(0, 3, 1)", 2).due("node(1, 0, 1)", NONE).due("node(1, 0, 2)", NONE).due("node(1, 1, 1)", 0)
            .due("node(1, 1, 5)", 1);
        says("UNKNOWN; OUTSIDE.");
        nodes.due("node(0, 6, 0)", UNKNOWN).due("node(0, -1, 0)", UNKNOWN).due("node(2, 0, 0)", UNKNOWN)
            .due("node(6, 0, 0)", UNKNOWN).due("node(0, 0, 6)", OUTSIDE).due("node(0, 0, -1)", OUTSIDE);

        says("`int sign(int t, int i)`: Sign i of a TREE as it is written; i = -1: how many; NONE.");
        Hands.with("a(b(cD)e)").due("sign(0, -1)", 9).due("sign(0, 0)", 'a').due("sign(0, 1)", '(').due("sign(0, 6)", ')')
            .due("sign(0, 7)", 'e').due("sign(0, 8)", ')')
            .due("sign(0, 9)", NONE).due("sign(0, -2)", NONE).put(0, CHAIN16).due("sign(0, -1)", 46).dueText(0, CHAIN16);
        says("UNKNOWN: also it is empty.");
        Hands.with("a").due("sign(1, 0)", UNKNOWN).due("sign(1, -1)", UNKNOWN).due("sign(6, 0)", UNKNOWN)
            .due("sign(-1, -1)", UNKNOWN);

        says("`int take(int t, int i, int u)`: TREE u becomes NODE i's TREE of t: NODES.");
        Hands.with("f(g(aB)h)").due("take(0, 1, 5)", 3).dueText(5, "g(aB)").dueText(0, "f(g(aB)h)").due("take(0, 4, 5)", 1)
            .dueText(5, "h").due("take(0, 1, 0)", 3).dueText(0, "g(aB)");
        says("UNKNOWN.");
        Hands.with("f(a)").due("take(0, 2, 1)", UNKNOWN).due("take(0, -1, 1)", UNKNOWN).due("take(1, 0, 0)", UNKNOWN)
            .due("take(6, 0, 0)", UNKNOWN).due("take(0, 0, 6)", UNKNOWN).due("take(0, 0, -1)", UNKNOWN);

        says("`int alike(int s, int i, int t, int k)`: Whether two NODES are ALIKE: 1, 0.");
        Hands.with("f(g(a)b)", "g(a)").due("alike(0, 1, 1, 0)", 1).due("alike(1, 0, 0, 1)", 1).due("alike(0, 0, 1, 0)", 0)
            .due("alike(0, 3, 1, 1)", 0).due("alike(0, 0, 0, 0)", 1);
        says("UNKNOWN.");
        Hands.with("f(a)").due("alike(0, 2, 0, 0)", UNKNOWN).due("alike(0, 0, 0, 2)", UNKNOWN).due("alike(1, 0, 0, 0)", UNKNOWN)
            .due("alike(0, 0, 1, 0)", UNKNOWN).due("alike(6, 0, 0, 0)", UNKNOWN).due("alike(0, 0, -1, 0)", UNKNOWN);
    }

    private static void promisesOfEdits() {
        says("`int price(int which, int v)`: A PRICE: which it was.");
        Hands.with("a(b)", "a").due("price(0, 5)", 3).due("price(0, 7)", 5).due("least(0, 1)", 7).due("price(1, 4)", 3)
            .due("price(2, 1)", 2).due("price(0, 7)", 7);
        says("OUTSIDE.");
        new Hands().due("price(3, 0)", OUTSIDE).due("price(-1, 0)", OUTSIDE).due("price(0, 10)", OUTSIDE)
            .due("price(0, -1)", OUTSIDE).due("price(0, 0)", 3);

        says("`int least(int s, int t)`: PRICE of THE LEAST.");
        Hands.with("f(g(ab)c)", "f(abc)").due("least(0, 1)", 3).due("least(1, 0)", 3).due("least(0, 0)", 0).put(1, "f(g(ab)x)")
            .due("least(0, 1)", 2).put(1, "z").due("least(0, 1)", 4 * 3 + 2);
        says("UNKNOWN: also one is empty.");
        Hands.with("a").due("least(0, 1)", UNKNOWN).due("least(1, 0)", UNKNOWN).due("least(1, 1)", UNKNOWN)
            .due("least(6, 0)", UNKNOWN).due("least(0, -1)", UNKNOWN);

        says("`int led(int s, int t, int i)`: Partner of NODE i of s by THE LEAST; 99.");
        dueRow(Hands.with("f(g(ab)c)", "f(abc)"), 0, 99, 1, 2, 3);
        dueRow(Hands.with("f(abc)", "f(g(ab)c)"), 0, 2, 3, 4);
        says("UNKNOWN.");
        Hands.with("f(a)", "f(abc)").due("led(0, 1, 2)", UNKNOWN).due("led(0, 1, -1)", UNKNOWN).due("led(0, 2, 0)", UNKNOWN)
            .due("led(2, 0, 0)", UNKNOWN).due("led(6, 0, 0)", UNKNOWN).due("led(0, 6, 0)", UNKNOWN);

        says("`int edits(int s, int t, int what)`: By THE LEAST: 0 led ones, 1 those of them with another LABEL, 2 dropped, 3 added, 4 MOVED pairs, 5 NODES of s in MOVED pairs.");
        dueEdits(Hands.with("f(g(ab)c)", "f(axc)"), 4, 1, 1, 0, 0, 0);
        dueEdits(Hands.with("f(axc)", "f(g(ab)c)"), 4, 1, 0, 1, 0, 0);
        dueEdits(Hands.with("f(xp(q)g(abcd))", "f(g(abcd)xp(q)r)").due("price(2, 9)", 2), 6, 0, 3, 4, 2, 3);
        // each pair of TREES anew
        Hands turns = Hands.with("f(g(y)m(abcdehi))", "f(m(abcdehi)g(y))", "a", "b");
        turns.due("edits(0, 1, 0)", 9).due("edits(0, 1, 4)", 1).due("edits(0, 1, 5)", 2).due("edits(2, 3, 0)", 1)
            .due("edits(2, 3, 1)", 1).due("edits(2, 3, 5)", 0);
        turns.due("edits(2, 2, 1)", 0).due("edits(1, 0, 0)", 9).due("edits(1, 0, 4)", 1).due("edits(1, 0, 5)", 2);
        says("UNKNOWN; OUTSIDE.");
        Hands.with("a", "b").due("edits(0, 2, 0)", UNKNOWN).due("edits(2, 0, 0)", UNKNOWN).due("edits(6, 0, 0)", UNKNOWN)
            .due("edits(0, -1, 0)", UNKNOWN).due("edits(0, 1, 6)", OUTSIDE).due("edits(0, 1, -1)", OUTSIDE);

        says("`int moved(int s, int t, int i)`: MOVED pair i: 100 times NODE of s, and NODE of t; NONE.");
        Hands moved = Hands.with("f(m(abcdeghijklno)x)", "f(xm(abcdeghijklno))").due("moved(0, 1, 0)", 1501)
            .due("moved(0, 1, 1)", NONE).due("moved(0, 1, -1)", NONE);
        moved.due("moved(1, 0, 0)", 115).due("moved(0, 0, 0)", NONE);
        says("UNKNOWN.");
        moved.due("moved(0, 2, 0)", UNKNOWN).due("moved(2, 0, 0)", UNKNOWN).due("moved(6, 0, 0)", UNKNOWN)
            .due("moved(0, -1, 0)", UNKNOWN);
    }

    private static void promisesOfCommon() {
        says("`int common(int s, int i, int t, int k, int u)`: TREE u becomes COMMON: how many HOLES it tells apart.");
        Hands h = Hands.with("f(aba)", "f(xyx)").due("common(0, 0, 1, 0, 5)", 2).dueText(5, "f(ABA)").due("told(25)", 2)
            .due("common(0, 0, 0, 0, 5)", 0).dueText(5, "f(aba)");
        h.due("common(0, 0, 1, 0, 0)", 2).dueText(0, "f(ABA)").dueText(1, "f(xyx)");
        says("UNKNOWN; STATE: one of both is not PLAIN; NO: more than 8.");
        Hands no = Hands.with("f(a)", "f(A)").due("common(0, 2, 0, 0, 2)", UNKNOWN).due("common(0, 0, 0, 2, 2)", UNKNOWN)
            .due("common(2, 0, 0, 0, 3)", UNKNOWN).due("common(0, 0, 2, 0, 3)", UNKNOWN);
        no.due("common(0, 0, 0, 0, 6)", UNKNOWN).due("common(0, 0, 0, 0, -1)", UNKNOWN).due("common(0, 0, 1, 0, 2)", STATE)
            .due("common(1, 0, 0, 0, 2)", STATE).due("told(12)", 0);
        Hands.with("x(abcdefgh)", "x(bcdefghi)", "c").due("common(0, 0, 1, 0, 3)", 8).put(0, "x(abcdefghi)")
            .put(1, "x(bcdefghij)").due("common(0, 0, 1, 0, 2)", NO).dueText(2, "c");

        says("`int twice(int t, int what)`: SAID TWICE: SIZE (what = 0), the first NODE (1), the second (2); NONE.");
        dueTwice("f(g(ab)cg(ab))", 3, 1, 5);
        dueTwice("f(ab)", NONE, NONE, NONE);
        dueTwice("f(AA)", 1, 1, 2);
        says("UNKNOWN: also it is empty; OUTSIDE.");
        Hands.with("a").due("twice(1, 0)", UNKNOWN).due("twice(6, 0)", UNKNOWN).due("twice(-1, 0)", UNKNOWN)
            .due("twice(0, 3)", OUTSIDE).due("twice(0, -1)", OUTSIDE);
    }

    private static void promisesOfRules() {
        says("`int rule(int left, int right)`: A RULE: its number.");
        Hands.with("f(A)", "A").due("rule(0, 1)", 0).due("rule(0, 0)", 1).put(2, "f(f(b))").due("make(2, 1, 0)", 2)
            .dueText(2, "f(b)").due("clear()", 2).due("rule(0, 1)", 0);
        says("UNKNOWN: also one TREE is empty; FULL; NO: left is a HOLE, right has another one.");
        Hands.with("f(A)", "A", "B").due("rule(0, 3)", UNKNOWN).due("rule(3, 0)", UNKNOWN).due("rule(6, 0)", UNKNOWN)
            .due("rule(0, -1)", UNKNOWN).due("rule(1, 1)", NO).due("rule(0, 2)", NO).due("told(1)", 0);
        Hands.ruled("a=b", "a=b", "a=b", "a=b", "a=b", "a=b").due("rule(4, 5)", FULL).due("told(1)", 6);

        says("`int clear()`: RULES go: how many there were.");
        new Hands().due("clear()", 0);
        Hands.ruled("a=b", "a=c").put(0, "a").due("overlaps(0)", 2).due("clear()", 2).due("clear()", 0).due("told(1)", 0)
            .due("fits(0, 0)", 0).due("overlaps(0)", 0);

        says("`int fits(int t, int i)`: RULES that FIT a NODE, as bits.");
        Hands.ruled("a=b", "f(A)=A", "f(a)=b", "f(b)=c", "a=c", "f(A)=a").put(0, "f(a)").due("fits(0, 0)", 2 + 4 + 32)
            .due("fits(0, 1)", 1 + 16).put(0, "z").due("fits(0, 0)", 0);
        says("UNKNOWN; STATE: it is not PLAIN.");
        Hands.ruled("a=b").put(0, "f(a)").put(1, "f(aA)").due("fits(0, 2)", UNKNOWN).due("fits(0, -1)", UNKNOWN)
            .due("fits(2, 0)", UNKNOWN).due("fits(6, 0)", UNKNOWN).due("fits(1, 0)", STATE).due("fits(1, 1)", STATE);

        says("`int make(int t, int i, int rule)`: A RULE is done at a NODE: NODES of the TREE then.");
        Hands.ruled("a=b", "f(A)=g(AAc)").put(0, "e(f(a)d)").due("make(0, 1, 1)", 6).dueText(0, "e(g(aac)d)")
            .due("make(0, 3, 0)", 6).dueText(0, "e(g(abc)d)");
        says("UNKNOWN; STATE; FULL: more than 16; NO: it does not FIT.");
        Hands make = Hands.ruled("b=c(d)", "a=b").put(0, FLAT16).put(1, "f(Ab)").put(2, "f(b)");
        make.due("make(0, 1, 0)", FULL).dueText(0, FLAT16).due("make(1, 2, 0)", STATE).due("make(2, 0, 0)", NO)
            .due("make(2, 1, 1)", NO).due("make(2, 2, 0)", UNKNOWN);
        make.due("make(2, -1, 0)", UNKNOWN).due("make(2, 1, 2)", UNKNOWN).due("make(2, 1, -1)", UNKNOWN)
            .due("make(3, 0, 0)", UNKNOWN).due("make(6, 0, 0)", UNKNOWN).dueText(2, "f(b)");
        make.put(0, "a(bbbbbbbbbbbbbb)").due("make(0, 1, 0)", 16);

        says("`int walk(int t, boolean within)`: A WALK, TREE t becoming its end (2, 3: as it is by then): how it ended.");
        dueWalk(Hands.ruled("a=b", "f(A)=A"), "f(a)", false, 0, 2, "b");
        dueWalk(Hands.ruled("f(a)=c", "a=b"), "f(a)", false, 0, 1, "c");
        dueWalk(Hands.ruled("f(a)=c", "a=b"), "f(a)", true, 0, 1, "f(b)");
        dueWalk(Hands.ruled("a=b", "b=a"), "f(a)", true, 1, 2, "f(a)");
        dueWalk(Hands.ruled("a=f(aa)"), "a", true, 2, 7, "f(f(f(f(f(f(f(aa)a)a)a)a)a)a)");
        dueWalk(counter(), "t(r(o(o(o(o(o(o(z))))))))", true, 3, 100, "t(r(i(i(o(i(i(o(z))))))))");
        Hands.ruled("a=b").put(0, "a").put(1, "a").due("walk(1, true)", 0).dueText(1, "b").dueText(0, "a");
        says("UNKNOWN: also it is empty; STATE.");
        Hands.with("f(A)").due("walk(1, true)", UNKNOWN).due("walk(6, false)", UNKNOWN).due("walk(-1, true)", UNKNOWN)
            .due("walk(0, true)", STATE).due("walk(0, false)", STATE);

        says("`int steps()`: Steps of the latest WALK by walk(); NONE: there was none.");
        Hands steps = Hands.ruled("a=b", "a=c", "b=d").put(0, "f(aa)").put(1, "A").due("steps()", NONE)
            .due("overlap(0, 1, 0)", 1).due("overlaps(0)", 2).due("walk(1, true)", STATE).due("steps()", NONE);
        steps.due("walk(0, true)", 0).due("steps()", 4).due("overlap(0, 1, 0)", 1).due("make(0, 0, 0)", NO)
            .due("walk(2, true)", UNKNOWN).due("steps()", 4).due("walk(0, true)", 0).due("steps()", 0);
    }

    private static void promisesOfOverlaps() {
        says("`int overlap(int a, int b, int i)`: OVERLAP: 0 there is none, 1 it does not MEET (or is not ended by 0 both), 2 it MEETS; 3 the PEAK, or what is made of it, has more than 16 NODES.");
        Hands.ruled("f(f(A))=A", "f(a)=b").due("overlap(0, 1, 0)", 0).due("overlap(0, 1, 1)", 1).due("overlap(0, 0, 1)", 2);
        Hands.ruled("a=b", "a=c", "c=c").due("overlap(0, 1, 0)", 1).due("overlap(1, 0, 0)", 1);
        // the PEAK f(x h(x)) has 2 and twice the NODES of x; behind it what a or b makes of f(xy)
        Hands.ruled("f(Ah(A))=b", "f(g(aaaaaa)B)=b", "f(g(aaaaaaa)B)=b").due("overlap(0, 1, 0)", 2).due("overlap(0, 2, 0)", 3)
            .due("overlap(2, 0, 0)", 3);
        Hands.ruled("f(AB)=c(AAB)", "f(h(aaaaa)h(bb))=c", "f(h(aaaaa)h(bbb))=c").due("overlap(0, 1, 0)", 1)
            .due("overlap(1, 0, 0)", 1).due("overlap(0, 2, 0)", 3).due("overlap(2, 0, 0)", 3);
        says("UNKNOWN: RULES, NODE of a's left; NO: a HOLE, NODE 0 of a RULE with itself.");
        Hands o = Hands.ruled("f(g(A)A)=A", "g(a)=b").due("overlap(2, 0, 0)", UNKNOWN).due("overlap(-1, 0, 0)", UNKNOWN)
            .due("overlap(0, 2, 0)", UNKNOWN).due("overlap(0, -1, 0)", UNKNOWN);
        o.due("overlap(0, 1, 4)", UNKNOWN).due("overlap(0, 1, -1)", UNKNOWN).due("overlap(1, 0, 2)", UNKNOWN)
            .due("overlap(0, 1, 2)", NO).due("overlap(0, 1, 3)", NO).due("overlap(1, 1, 0)", NO).due("overlap(1, 1, 1)", 0);

        says("`int peak(int a, int b, int i, int u)`: TREE u becomes the PEAK (its HOLES A, B, and so on as written): NODES.");
        duePeak("f(HG)=G", "f(g(C)D)=D", 0, "f(g(A)B)");
        Hands.ruled("p(p(GF)E)=F", "p(s(A)B)=B").due("peak(0, 1, 1, 3)", 6).dueText(3, "p(p(s(A)B)C)")
            .due("peak(0, 0, 1, 5)", 7).dueText(5, "p(p(p(AB)C)D)").due("told(25)", 4);
        says("UNKNOWN; FULL: more than 16 NODES, or 8 HOLES; NO, likewise; STATE: there is no OVERLAP.");
        Hands p = Hands.ruled("f(g(A)A)=A", "g(a)=b").put(0, "c").due("peak(2, 0, 0, 0)", UNKNOWN)
            .due("peak(0, 2, 0, 0)", UNKNOWN).due("peak(0, 1, 4, 0)", UNKNOWN).due("peak(0, 1, 1, 6)", UNKNOWN)
            .due("peak(0, 1, 1, -1)", UNKNOWN);
        p.due("peak(0, 1, 2, 0)", NO).due("peak(0, 0, 0, 0)", NO).due("peak(0, 1, 0, 0)", STATE).dueText(0, "c")
            .due("peak(0, 1, 1, 0)", 4).dueText(0, "f(g(a)a)");
        Hands great = Hands.ruled("f(Ah(A))=b", "f(g(aaaaaa)B)=b", "f(g(aaaaaaa)B)=b").put(0, "c").due("peak(0, 2, 0, 0)", FULL)
            .dueText(0, "c").due("peak(0, 1, 0, 0)", 16);
        great.dueText(0, "f(g(aaaaaa)h(g(aaaaaa)))");
        Hands.ruled("f(Ag(B))=a", "g(h(ABCDEFGH))=b", "g(h(ABCDEFG))=b").put(0, "c").due("peak(0, 1, 2, 0)", FULL)
            .dueText(0, "c").due("peak(0, 2, 2, 0)", 11).dueText(0, "f(Ag(h(BCDEFGH)))");

        says("`int overlaps(int what)`: Of all OVERLAPS (RULES, then NODES): 0 how many, 1 that MEET, 2 that do not, 3 too great.");
        dueOverlaps(new Hands(), 0, 0, 0, 0);
        dueOverlaps(Hands.ruled("f(f(A))=A", "f(a)=b"), 2, 1, 1, 0);
        dueOverlaps(Hands.ruled("a=b", "a=c").rules("k(a)=d"), 4, 0, 4, 0);
        dueOverlaps(Hands.ruled("f(Ah(A))=b", "f(g(aaaaaaa)B)=b", "f(AB)=b"), 6, 4, 0, 2);
        Hands anew = Hands.ruled("a=b", "a=c").due("overlaps(2)", 2);
        dueOverlaps(anew.rules("b=c"), 2, 2, 0, 0);
        says("OUTSIDE.");
        new Hands().due("overlaps(4)", OUTSIDE).due("overlaps(-1)", OUTSIDE).due("overlaps(MAX)", OUTSIDE);

        says("`int told(int what)`: 0 signs on the PAD, 1 RULES, 10 to 15 NODES of TREES, 20 to 25 HOLES that they tell apart.");
        Hands told = Hands.with("f(ABA)", "a", "H", "x(ABCDEFGHHGFEDCB)", "f(ab)").due("rule(0, 1)", 0).due("rule(0, 4)", 1)
            .say("abc").due("told(0)", 3).due("told(1)", 2);
        int[] many = {4, 1, 1, 16, 3, 0, 2, 0, 1, 8, 0, 0};
        for (int t = 0; t < 6; t++) told.due("told(1" + t + ")", many[t]).due("told(2" + t + ")", many[6 + t]);
        says("OUTSIDE.");
        for (int w : new int[] {-1, 2, 9, 16, 19, 26}) new Hands().due("told(" + w + ")", OUTSIDE);
    }

    /** These leave free; what stays due is that the answers are the same each time and no object knows of another. */
    private static void notPromised() {
        says("How the state is held inside the object is free, as are the speed of each call, the text of toString and the behaviour of equals and hashCode.");
        due(room().state().equals(room().state()), "the same calls answer otherwise the second time");
        says("Use of one object from several threads at once is not promised to be safe.");
        Hands one = Hands.with("a");
        Hands two = Hands.with("b(c)");
        one.due("told(10)", 1);
        two.due("told(10)", 2);
        says("Nothing is promised beyond the answers and state changes described above, and nothing about an object after its 512th call.");
        Hands last = new Hands().say("a");
        while (last.calls() < Hands.MOST_CALLS - 1) last.due("fault()", NONE);
        last.due("read(0)", 1);
    }
}

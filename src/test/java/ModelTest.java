import java.util.ArrayList;
import java.util.List;
import java.util.Random;

/** Runs of calls by chance (the same each time), each call put to the class and to the model. */
public final class ModelTest {
    private static int wrong = 0;
    private static final int[] seen = new int[64];

    private final Random chance;
    private final TreeHands hands = new TreeHands();
    private final Model model = new Model();
    private final List<String> calls = new ArrayList<>();
    private final int style;

    private ModelTest(long seed) {
        chance = new Random(seed);
        style = chance.nextInt(4);
    }

    public static void main(String[] args) {
        int runs = args.length > 0 ? Integer.parseInt(args[0]) : 400;
        for (int seed = 0; seed < runs && wrong < 5; seed++) {
            ModelTest test = new ModelTest(seed);
            while (test.calls.size() < 470 && wrong < 5) test.act();
        }
        for (int seed = 0; seed < 2 * runs && wrong < 5; seed++) new ModelTest(seed).versions();
        for (int seed = 0; seed < 2 * runs && wrong < 5; seed++) new ModelTest(seed).meetings();
        leadingsByAll();
        if (runs >= 400) coverage();
        System.out.println(wrong == 0 ? "ModelTest: all answers are as the model's" : "ModelTest: " + wrong + " wrong");
        if (wrong != 0) System.exit(1);
    }

    private int pick(int from, int to) { return from + chance.nextInt(to - from + 1); }

    private void due(String call, int got, int want) {
        calls.add(call + " -> " + got);
        if (got != want) {
            wrong++;
            System.out.println(call + " answered " + got + ", the model " + want + "; ahead of it:");
            for (int k = Math.max(0, calls.size() - 120); k < calls.size(); k++) System.out.print(" " + calls.get(k) + ";");
            System.out.println();
        }
    }

    private void say(String text) {
        for (char c : text.toCharArray()) due("say(" + (int) c + ")", hands.say(c), model.say(c));
    }

    private void put(int t, String text) {
        due("wipe()", hands.wipe(), model.wipe());
        say(text);
        due("read(" + t + ")", hands.read(t), model.read(t));
    }

    /** A TREE with about so many NODES; with HOLES if holes > 0. */
    private String tree(int nodes, int holes) {
        if (nodes <= 1) {
            if (holes > 0 && chance.nextInt(3) > 0) return "" + (char) ('A' + chance.nextInt(holes));
            return "" + (char) ('a' + chance.nextInt(style == 0 ? 2 : 3));
        }
        StringBuilder b = new StringBuilder();
        b.append(style == 1 ? 'f' : (char) ('f' + chance.nextInt(2))).append('(');
        int left = nodes - 1;
        int most = style == 2 ? 2 : 3;
        int parts = 0;
        while (left > 0) {
            parts++;
            int n = parts == most || chance.nextInt(4) == 0 ? left : pick(1, left);
            b.append(tree(n, holes));
            left -= n;
        }
        return b.append(')').toString();
    }

    private int anyTree() { return chance.nextInt(40) == 0 ? pick(-2, 8) : pick(0, 5); }

    private int anyNode(int t) {
        int n = model.isFilled(t) ? model.trees[t].size() : 1;
        return chance.nextInt(30) == 0 ? pick(-2, 18) : chance.nextInt(n);
    }

    private int anyRule() { return chance.nextInt(20) == 0 ? pick(-1, 7) : pick(0, Math.max(0, model.rules.size() - 1)); }

    private void act() {
        int s = anyTree();
        int t = anyTree();
        int u = anyTree();
        int i = anyNode(s);
        int k = anyNode(t);
        int a = anyRule();
        int b = anyRule();
        int r = a >= 0 && a < model.rules.size() ? pick(-1, model.rules.get(a).left().size()) : pick(-1, 2);
        int what = pick(-1, 6);
        int which = chance.nextInt(26);
        seen[which]++;
        switch (which) {
            case 0: put(pick(0, 5), tree(pick(1, 10), 0)); break;
            case 1: put(pick(0, 5), tree(pick(6, 17), 0)); break;
            case 2: put(pick(0, 5), tree(pick(1, 7), 3)); break;
            case 3: junk(); break;
            case 4: due("node(" + s + ", " + i + ", " + what + ")", hands.node(s, i, what), model.node(s, i, what)); break;
            case 5: written(s); break;
            case 6: due("take(" + s + ", " + i + ", " + u + ")", hands.take(s, i, u), model.take(s, i, u)); break;
            case 7: due("alike(" + s + ", " + i + ", " + t + ", " + k + ")", hands.alike(s, i, t, k), model.alike(s, i, t, k)); break;
            case 8: price(); break;
            case 9: case 10: leading(s, t); break;
            case 11: case 12: due("common(" + s + ", " + i + ", " + t + ", " + k + ", " + u + ")",
                hands.common(s, i, t, k, u), model.common(s, i, t, k, u)); written(u); break;
            case 13: for (int w = 0; w < 3; w++) due("twice(" + s + ", " + w + ")", hands.twice(s, w), model.twice(s, w)); break;
            case 14: case 15: newRule(); break;
            case 16: if (chance.nextInt(3) == 0) due("clear()", hands.clear(), model.clear()); break;
            case 17: due("fits(" + s + ", " + i + ")", hands.fits(s, i), model.fits(s, i)); break;
            case 18: due("make(" + s + ", " + i + ", " + a + ")", hands.make(s, i, a), model.make(s, i, a)); written(s); break;
            case 19: case 20: walk(s); break;
            case 21: case 22: due("overlap(" + a + ", " + b + ", " + r + ")", hands.overlap(a, b, r), model.overlap(a, b, r)); break;
            case 23: due("peak(" + a + ", " + b + ", " + r + ", " + u + ")", hands.peak(a, b, r, u), model.peak(a, b, r, u)); written(u); break;
            case 24: for (int w = -1; w < 5; w++) due("overlaps(" + w + ")", hands.overlaps(w), model.overlaps(w)); break;
            default: int w = pick(-1, 27); due("told(" + w + ")", hands.told(w), model.told(w)); break;
        }
    }

    private void junk() {
        String signs = "ab(()))ABHIz!~c(d)";
        StringBuilder b = new StringBuilder(chance.nextBoolean() ? "a(" : "");
        int n = pick(0, 9);
        for (int k = 0; k < n; k++) b.append(signs.charAt(chance.nextInt(signs.length())));
        say(b.toString());
        due("fault()", hands.fault(), model.fault());
        int t = pick(-1, 6);
        due("read(" + t + ")", hands.read(t), model.read(t));
    }

    private void written(int t) {
        int n = model.sign(t, -1);
        due("sign(" + t + ", -1)", hands.sign(t, -1), n);
        for (int k = 0; k <= n; k++) {
            int got = hands.sign(t, k);
            if (got != model.sign(t, k)) due("sign(" + t + ", " + k + ")", got, model.sign(t, k));
        }
    }

    private void price() {
        int which = pick(-1, 3);
        int v = chance.nextInt(3) == 0 ? pick(-1, 10) : pick(0, 3);
        due("price(" + which + ", " + v + ")", hands.price(which, v), model.price(which, v));
    }

    private void leading(int s, int t) {
        due("least(" + s + ", " + t + ")", hands.least(s, t), model.least(s, t));
        int[] row = model.isFilled(s) && model.isFilled(t) ? model.theLeast(s, t).row() : new int[0];
        for (int x = -1; x <= row.length; x++) {
            int want = x >= 0 && x < row.length ? row[x] : Model.UNKNOWN;
            due("led(" + s + ", " + t + ", " + x + ")", hands.led(s, t, x), want);
        }
        for (int w = -1; w < 7; w++) due("edits(" + s + ", " + t + ", " + w + ")", hands.edits(s, t, w), model.edits(s, t, w));
        int pairs = model.edits(s, t, 4);
        if (pairs > 0) seen[40]++;
        if (pairs > 1) seen[41]++;
        for (int p = -1; p <= pairs; p++) due("moved(" + s + ", " + t + ", " + p + ")", hands.moved(s, t, p), model.moved(s, t, p));
    }

    private void newRule() {
        int kind = chance.nextInt(6);
        String left = tree(pick(2, 6), pick(0, 3));
        String right = tree(pick(1, kind == 0 ? 8 : 4), kind < 4 ? 3 : 0);
        if (kind == 1) right = right.replaceAll("[A-H]", "a");
        put(4, left);
        put(5, right);
        int l = kind == 2 ? anyTree() : 4;
        due("rule(" + l + ", 5)", hands.rule(l, 5), model.rule(l, 5));
    }

    private void walk(int t) {
        boolean within = chance.nextBoolean();
        int end = model.walk(t, within);
        if (end >= 0 && model.steps() > 0) seen[50 + end]++;
        due("walk(" + t + ", " + within + ")", hands.walk(t, within), end);
        due("steps()", hands.steps(), model.steps());
        written(t);
    }

    /** Two versions of one TREE: some PARTS change places, some LABELS change. */
    private void versions() {
        Model.Term one = Model.parse(tree(pick(6, 16), 2));
        Model.Term two = one;
        for (int n = pick(1, 3); n > 0; n--) two = shuffled(two);
        put(0, one.text());
        put(1, two.text());
        for (int n = 0; n < 3; n++) {
            leading(0, 1);
            leading(1, 0);
            price();
        }
    }

    private Model.Term shuffled(Model.Term t) {
        List<Model.Term> parts = new ArrayList<>();
        for (Model.Term p : t.parts()) parts.add(chance.nextInt(2) == 0 ? shuffled(p) : p);
        if (chance.nextInt(2) == 0) java.util.Collections.shuffle(parts, chance);
        String mark = parts.isEmpty() && chance.nextInt(5) == 0 ? "c" : t.mark();
        return new Model.Term(mark, parts);
    }

    /** Some RULES, and all places where they might meet. */
    private void meetings() {
        int many = pick(1, 4);
        for (int n = 0; n < many; n++) {
            String left = tree(pick(2, chance.nextInt(4) == 0 ? 12 : 6), pick(1, chance.nextInt(3) == 0 ? 8 : 3));
            Model.Term right = Model.parse(tree(pick(1, chance.nextInt(5) == 0 ? 10 : 4), 8));
            List<String> holes = new ArrayList<>(Model.parse(left).holes());
            put(4, left);
            put(5, withHolesOf(right, holes).text());
            due("rule(4, 5)", hands.rule(4, 5), model.rule(4, 5));
        }
        for (int w = 0; w < 4; w++) due("overlaps(" + w + ")", hands.overlaps(w), model.overlaps(w));
        for (int a = 0; a < model.rules.size(); a++) {
            for (int b = 0; b < model.rules.size(); b++) {
                for (int i = 0; i < model.rules.get(a).left().size(); i++) meeting(a, b, i);
            }
        }
        for (int n = 0; n < 3; n++) {
            put(0, tree(pick(3, 9), 0));
            walk(0);
        }
    }

    private Model.Term withHolesOf(Model.Term t, List<String> holes) {
        if (t.isHole()) return new Model.Term(holes.isEmpty() ? "a" : holes.get(chance.nextInt(holes.size())), List.of());
        List<Model.Term> parts = new ArrayList<>();
        for (Model.Term p : t.parts()) parts.add(withHolesOf(p, holes));
        return new Model.Term(t.mark(), parts);
    }

    private void meeting(int a, int b, int i) {
        int kind = model.overlap(a, b, i);
        seen[kind < 0 ? 30 : 31 + kind]++;
        due("overlap(" + a + ", " + b + ", " + i + ")", hands.overlap(a, b, i), kind);
        int nodes = model.peak(a, b, i, 3);
        seen[nodes == Model.FULL ? 36 : nodes == Model.STATE ? 37 : 38]++;
        due("peak(" + a + ", " + b + ", " + i + ", 3)", hands.peak(a, b, i, 3), nodes);
        written(3);
    }

    /** THE LEAST of small TREES against all LEADINGS, so that the model's own way is not believed blindly. */
    private static void leadingsByAll() {
        for (int seed = 0; seed < 3000 && wrong < 5; seed++) {
            ModelTest test = new ModelTest(seed);
            test.put(0, test.tree(test.pick(1, 6), 2));
            test.put(1, test.tree(test.pick(1, 6), 2));
            for (int n = 0; n < 3; n++) {
                Model.Lead lead = test.model.theLeastByAll(0, 1);
                test.due("least(0, 1)", test.hands.least(0, 1), lead.price());
                for (int x = 0; x < lead.row().length; x++) test.due("led(0, 1, " + x + ")", test.hands.led(0, 1, x), lead.row()[x]);
                test.price();
                test.price();
            }
        }
    }

    /** The runs must have come by what is rare, or they show little. */
    private static void coverage() {
        int[] must = {30, 31, 32, 33, 34, 36, 37, 38, 40, 41, 50, 51, 52};
        for (int k : must) {
            if (seen[k] < 20) {
                wrong++;
                System.out.println("ModelTest: case " + k + " came only " + seen[k] + " times");
            }
        }
    }
}

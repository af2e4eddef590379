import java.util.ArrayList;
import java.util.List;

/** An object under test, called by texts such as "node(0, MAX, 1)"; it counts its calls and the wrong answers. */
final class Hands {
    /** Nothing is promised beyond this call, so no test may lean on one. */
    static final int MOST_CALLS = 512;
    static int wrong = 0;
    /** How often something was due. */
    static int checks = 0;
    /** The sentence of the document that is on trial. */
    static String sentence = "";

    private final TreeHands x = new TreeHands();
    private final List<String> past = new ArrayList<>();
    private int calls = 0;

    int calls() { return calls; }

    // ---- calls

    /** MIN and MAX stand for the least and the greatest int. */
    int call(String text) {
        int open = text.indexOf('(');
        String inside = text.substring(open + 1, text.length() - 1).trim();
        String[] words = inside.isEmpty() ? new String[0] : inside.split(",");
        int[] a = new int[words.length];
        boolean yes = false;
        for (int k = 0; k < a.length; k++) {
            String word = words[k].trim();
            yes |= word.equals("true");
            a[k] = word.equals("true") || word.equals("false") ? 0 : number(word);
        }
        int answer = ask(text.substring(0, open) + a.length, a, yes);
        boolean shown = !text.startsWith("say") && !text.startsWith("sign");
        if (shown) past.add(text + " = " + answer);
        return answer;
    }

    private static int number(String word) {
        if (word.equals("MIN")) return Integer.MIN_VALUE;
        if (word.equals("MAX")) return Integer.MAX_VALUE;
        return Integer.parseInt(word);
    }

    /** The name is the call's with the number of its arguments behind it. */
    int ask(String name, int[] a, boolean yes) {
        calls++;
        if (calls > MOST_CALLS) throw new IllegalStateException("the test itself goes beyond " + MOST_CALLS + " calls");
        switch (name) {
            case "say1": return x.say(a[0]);
            case "wipe0": return x.wipe();
            case "fault0": return x.fault();
            case "read1": return x.read(a[0]);
            case "node3": return x.node(a[0], a[1], a[2]);
            case "sign2": return x.sign(a[0], a[1]);
            case "take3": return x.take(a[0], a[1], a[2]);
            case "alike4": return x.alike(a[0], a[1], a[2], a[3]);
            case "price2": return x.price(a[0], a[1]);
            case "least2": return x.least(a[0], a[1]);
            case "led3": return x.led(a[0], a[1], a[2]);
            case "edits3": return x.edits(a[0], a[1], a[2]);
            case "moved3": return x.moved(a[0], a[1], a[2]);
            case "common5": return x.common(a[0], a[1], a[2], a[3], a[4]);
            case "twice2": return x.twice(a[0], a[1]);
            case "rule2": return x.rule(a[0], a[1]);
            case "clear0": return x.clear();
            case "fits2": return x.fits(a[0], a[1]);
            case "make3": return x.make(a[0], a[1], a[2]);
            case "walk2": return x.walk(a[0], yes);
            case "steps0": return x.steps();
            case "overlap3": return x.overlap(a[0], a[1], a[2]);
            case "peak4": return x.peak(a[0], a[1], a[2], a[3]);
            case "overlaps1": return x.overlaps(a[0]);
            case "told1": return x.told(a[0]);
            default: throw new IllegalStateException("no such call: " + name);
        }
    }

    // ---- what is due

    Hands due(String text, int want) {
        checks++;
        int got = call(text);
        if (got != want) report(text + " answered " + got + ", due is " + want);
        return this;
    }

    /** What TREE t is written as; empty: "". */
    Hands dueText(int t, String want) {
        checks++;
        String got = text(t);
        if (!got.equals(want)) report("TREE " + t + " is " + got + ", due is " + want);
        return this;
    }

    private void report(String what) {
        wrong++;
        System.out.println(sentence + ": " + what);
        System.out.println("  behind " + String.join("; ", past.subList(Math.max(0, past.size() - 30), past.size())));
    }

    // ---- runs of calls

    Hands say(String signs) {
        for (char c : signs.toCharArray()) call("say(" + (int) c + ")");
        return this;
    }

    /** TREE t becomes what is written; the PAD must be empty, as it is again then. */
    Hands put(int t, String tree) {
        say(tree);
        past.add(tree);
        int nodes = call("read(" + t + ")");
        if (nodes < 1) report("read(" + t + ") of " + tree + " answered " + nodes);
        return this;
    }

    /** TREES 0, 1 and so on. */
    static Hands with(String... trees) {
        Hands h = new Hands();
        for (int t = 0; t < trees.length; t++) h.put(t, trees[t]);
        return h;
    }

    /** RULES written left=right; TREES 4 and 5 are used for them. */
    static Hands ruled(String... rules) {
        return new Hands().rules(rules);
    }

    Hands rules(String... rules) {
        for (String rule : rules) {
            put(4, rule.substring(0, rule.indexOf('=')));
            put(5, rule.substring(rule.indexOf('=') + 1));
            int number = call("rule(4, 5)");
            if (number < 0) report("rule " + rule + " answered " + number);
        }
        return this;
    }

    String text(int t) {
        StringBuilder b = new StringBuilder();
        int many = call("sign(" + t + ", -1)");
        for (int i = 0; i < many; i++) b.append((char) call("sign(" + t + ", " + i + ")"));
        return b.toString();
    }

    /** All that later calls can tell of the object, in one text; it is used up by that, as the PAD goes to a TREE. */
    String state() {
        StringBuilder b = new StringBuilder();
        b.append("signs ").append(call("told(0)")).append(", fault ").append(call("fault()"));
        for (int t = 0; t < 6; t++) b.append(", ").append(t).append(": ").append(text(t));
        b.append(", least ").append(call("least(0, 2)")).append(" moved ").append(call("moved(0, 2, 0)"));
        b.append(", steps ").append(call("steps()"));
        int rules = call("told(1)");
        b.append(", rules ").append(rules);
        for (int w = 0; w < 4; w++) b.append(' ').append(call("overlaps(" + w + ")"));
        for (int i = 0; i < call("told(10)"); i++) b.append(' ').append(call("fits(0, " + i + ")"));
        for (int r = 0; r < rules; r++) {
            b.append(", ").append(call("take(0, 0, 5)")).append(call("make(5, 0, " + r + ")")).append(text(5));
        }
        for (int w = 0; w < 3; w++) b.append(", price ").append(call("price(" + w + ", 0)"));
        b.append(", pad ").append(call("read(5)")).append(' ').append(text(5));
        return b.toString();
    }
}

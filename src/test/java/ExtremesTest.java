/** Every call with all mixtures of small, great and extreme numbers, put to the class and to the model: none throws. */
public final class ExtremesTest {
    private static final int[] MANY = {
        Integer.MIN_VALUE, Integer.MIN_VALUE + 1, -7, -1, 0, 1, 2, 3, 5, 6, 15, 16, Integer.MAX_VALUE - 1, Integer.MAX_VALUE
    };
    private static final int[] FEW = {Integer.MIN_VALUE, -1, 0, 1, 2, 3, 6, 16, Integer.MAX_VALUE};
    /** Behind so many calls a new object is taken: nothing is promised beyond 512. */
    private static final int ENOUGH = 480;

    private static int wrong = 0;
    private static int mixtures = 0;
    private static Hands hands;
    private static Model model;

    private static final String[] NAMES = {
        "say1", "read1", "node3", "sign2", "take3", "alike4", "price2", "least2", "led3", "edits3", "moved3", "common5",
        "twice2", "rule2", "fits2", "make3", "walk2", "overlap3", "peak4", "overlaps1", "told1"
    };

    private static int ofModel(String name, int[] a) {
        switch (name) {
            case "say1": return model.say(a[0]);
            case "read1": return model.read(a[0]);
            case "node3": return model.node(a[0], a[1], a[2]);
            case "sign2": return model.sign(a[0], a[1]);
            case "take3": return model.take(a[0], a[1], a[2]);
            case "alike4": return model.alike(a[0], a[1], a[2], a[3]);
            case "price2": return model.price(a[0], a[1]);
            case "least2": return model.least(a[0], a[1]);
            case "led3": return model.led(a[0], a[1], a[2]);
            case "edits3": return model.edits(a[0], a[1], a[2]);
            case "moved3": return model.moved(a[0], a[1], a[2]);
            case "common5": return model.common(a[0], a[1], a[2], a[3], a[4]);
            case "twice2": return model.twice(a[0], a[1]);
            case "rule2": return model.rule(a[0], a[1]);
            case "fits2": return model.fits(a[0], a[1]);
            case "make3": return model.make(a[0], a[1], a[2]);
            case "walk2": return model.walk(a[0], a[1] > 0);
            case "overlap3": return model.overlap(a[0], a[1], a[2]);
            case "peak4": return model.peak(a[0], a[1], a[2], a[3]);
            case "overlaps1": return model.overlaps(a[0]);
            default: return model.told(a[0]);
        }
    }

    private static void due(String name, int[] a) {
        int want = ofModel(name, a);
        String got;
        try {
            got = "" + hands.ask(name, a, name.equals("walk2") && a[1] > 0);
        } catch (RuntimeException e) {
            got = e.toString();
        }
        if (!got.equals("" + want)) {
            wrong++;
            System.out.println(name + java.util.Arrays.toString(a) + " answered " + got + ", the model " + want);
        }
    }

    private static void put(int t, String tree) {
        for (char c : tree.toCharArray()) due("say1", new int[] {c});
        due("read1", new int[] {t});
    }

    /** TREE 3 is empty, 2 is not PLAIN, 4 is a HOLE; two RULES that meet; a TREE on the PAD. */
    private static void start() {
        hands = new Hands();
        model = new Model();
        put(4, "f(AA)");
        put(5, "A");
        due("rule2", new int[] {4, 5});
        put(4, "f(g(b)A)");
        put(5, "g(A)");
        due("rule2", new int[] {4, 5});
        put(0, "f(g(b)g(b))");
        put(1, "a(bcdefghijklmnop)");
        put(2, "h(Bf(Ac))");
        put(4, "A");
        for (char c : "k(l)".toCharArray()) due("say1", new int[] {c});
    }

    private static void all(String name) {
        int many = name.charAt(name.length() - 1) - '0';
        int[] values = many > 3 ? FEW : MANY;
        int[] at = new int[many];
        int[] a = new int[many];
        start();
        int place = 0;
        while (place < many && wrong < 10) {
            for (int k = 0; k < many; k++) a[k] = values[at[k]];
            if (hands.calls() >= ENOUGH) start();
            due(name, a);
            mixtures++;
            place = 0;
            while (place < many && ++at[place] == values.length) at[place++] = 0;
        }
    }

    public static void main(String[] args) {
        for (String name : NAMES) all(name);
        System.out.println(wrong == 0 ? "ExtremesTest: " + mixtures + " mixtures, all answers are as the model's" : "ExtremesTest: " + wrong + " wrong");
        if (wrong != 0) System.exit(1);
    }
}

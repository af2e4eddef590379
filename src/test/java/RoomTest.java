import java.lang.management.ManagementFactory;

/** What a run makes stays in one room: an object is small, and no call makes anything. Calls end soon, too. */
public final class RoomTest {
    private static int wrong = 0;

    private static final String[] RULES = {
        "t(o(A))=t(i(A))", "t(i(A))=t(o(k(A)))", "k(o(A))=i(A)", "k(i(A))=o(k(A))", "t(A)=t(A)",
        "k(o(o(o(o(A)))))=t(o(o(o(o(o(o(o(z))))))))"
    };

    private static void put(TreeHands x, int t, String tree) {
        x.wipe();
        for (int k = 0; k < tree.length(); k++) x.say(tree.charAt(k));
        x.read(t);
    }

    private static void useAll(TreeHands x) {
        put(x, 0, "t(o(o(o(o(o(o(o(o(o(o(o(z))))))))))))");
        put(x, 1, "a(bcdefghijklmnop)");
        for (String rule : RULES) {
            put(x, 4, rule.substring(0, rule.indexOf('=')));
            put(x, 5, rule.substring(rule.indexOf('=') + 1));
            x.rule(4, 5);
        }
        for (int n = 0; n < 20; n++) {
            x.price(2, n % 10);
            x.least(0, 1);
            x.edits(1, 0, 4);
            x.moved(0, 1, 0);
            x.common(0, 0, 1, 0, 2);
            x.twice(1, 0);
            x.sign(0, -1);
            x.take(0, 0, 3);
            x.walk(3, n % 2 == 0);
            x.make(0, 0, 0);
            x.fits(0, 0);
            x.overlap(0, 5, 1);
            x.peak(5, 2, 0, 2);
            x.overlaps(0);
            x.told(25);
        }
    }

    private static void check(String what, long got, long most) {
        if (got > most) {
            wrong++;
            System.out.println("RoomTest: " + what + " " + got + ", at most " + most);
        }
    }

    public static void main(String[] args) {
        var threads = (com.sun.management.ThreadMXBean) ManagementFactory.getThreadMXBean();
        for (int n = 0; n < 30; n++) useAll(new TreeHands());
        long before = threads.getCurrentThreadAllocatedBytes();
        TreeHands x = new TreeHands();
        long made = threads.getCurrentThreadAllocatedBytes() - before;
        check("bytes of an object", made, 64_000);
        useAll(x);
        // of these, the texts of the test itself are a part
        long used = threads.getCurrentThreadAllocatedBytes() - before - made;
        check("bytes of all calls", used, 8_000);
        long start = System.nanoTime();
        for (int n = 0; n < 20; n++) {
            x.clear();
            useAll(x);
        }
        check("milliseconds of 20 runs", (System.nanoTime() - start) / 1_000_000, 20_000);
        System.out.println(wrong == 0 ? "RoomTest: an object takes " + made + " bytes, its calls nothing" : "RoomTest: wrong");
        if (wrong != 0) System.exit(1);
    }
}

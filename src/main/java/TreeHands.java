/** Two versions of a program as ordered trees, and rules with holes; DOC.md says each call. */
public final class TreeHands {
    public static final int NONE = -6, UNKNOWN = -1, OUTSIDE = -2, STATE = -3, FULL = -4, NO = -5;

    private static final int TREES = 6;
    private static final int MOST_NODES = 16;
    private static final int MOST_SIGNS = 60;
    private static final int MOST_RULES = 6;
    private static final int MOST_HOLES = 8;
    private static final int MOST_STEPS = 100;
    private static final int FIRST_SIGN = 33;
    private static final int LAST_SIGN = 126;
    private static final int UNLED = 99;

    private final Pad pad = new Pad();
    private final Tree[] trees = new Tree[TREES];
    private final Tree work = new Tree();
    private final int[] text = new int[MOST_SIGNS];
    private final Leader leader = new Leader();
    private final Mover mover = new Mover();
    private final Commoner commoner = new Commoner();
    private final Rules rules = new Rules();
    private final Walker walker = new Walker(rules);
    private final Overlapper overlapper = new Overlapper(rules, walker);
    private int latestSteps = NONE;
    // what leader and mover hold is of these two TREES; -1: of none
    private int knownFrom = -1;
    private int knownTo = -1;

    public TreeHands() {
        for (int t = 0; t < TREES; t++) {
            trees[t] = new Tree();
        }
    }

    // ---- 1 trees

    public int say(int sign) {
        if (sign < FIRST_SIGN || sign > LAST_SIGN) {
            return OUTSIDE;
        }
        return pad.append(sign) ? pad.count : FULL;
    }

    public int wipe() {
        int were = pad.count;
        pad.count = 0;
        return were;
    }

    public int fault() {
        int place = pad.firstFault();
        return place < 0 ? NONE : place;
    }

    public int read(int t) {
        if (treeAt(t) == null) {
            return UNKNOWN;
        }
        if (pad.firstFault() >= 0) {
            return NO;
        }
        if (pad.nodeCount() > MOST_NODES) {
            return FULL;
        }
        pad.parse(work);
        pad.count = 0;
        return become(t, work);
    }

    public int node(int t, int i, int what) {
        Tree tree = treeAt(t);
        if (tree == null || !tree.has(i)) {
            return UNKNOWN;
        }
        switch (what) {
            case 0: return tree.label[i];
            case 1: return tree.parent[i];
            case 2: return tree.place[i];
            case 3: return tree.parts[i];
            case 4: return tree.size[i];
            case 5: return tree.depth[i];
            default: return OUTSIDE;
        }
    }

    public int sign(int t, int i) {
        Tree tree = filledAt(t);
        if (tree == null) {
            return UNKNOWN;
        }
        int many = tree.write(text);
        if (i == -1) {
            return many;
        }
        return i >= 0 && i < many && i < text.length ? text[i] : NONE;
    }

    public int take(int t, int i, int u) {
        Tree tree = treeAt(t);
        if (tree == null || !tree.has(i) || treeAt(u) == null) {
            return UNKNOWN;
        }
        work.copyPart(tree, i);
        return become(u, work);
    }

    public int alike(int s, int i, int t, int k) {
        Tree one = treeAt(s);
        Tree two = treeAt(t);
        if (one == null || two == null || !one.has(i) || !two.has(k)) {
            return UNKNOWN;
        }
        return one.isAs(i, two, k) ? 1 : 0;
    }

    // ---- 2 edits

    public int price(int which, int v) {
        if (which < 0 || which >= leader.prices.length || v < 0 || v > 9) {
            return OUTSIDE;
        }
        int was = leader.prices[which];
        leader.prices[which] = v;
        forgetLeading();
        return was;
    }

    public int least(int s, int t) {
        return leads(s, t) ? leader.total : UNKNOWN;
    }

    public int led(int s, int t, int i) {
        Tree from = filledAt(s);
        if (from == null || !from.has(i) || !leads(s, t)) {
            return UNKNOWN;
        }
        return leader.partner[i];
    }

    public int edits(int s, int t, int what) {
        Tree from = filledAt(s);
        Tree to = filledAt(t);
        if (from == null || to == null || !leads(s, t)) {
            return UNKNOWN;
        }
        switch (what) {
            case 0: return leader.ledOnes;
            case 1: return leader.renamed;
            case 2: return from.count - leader.ledOnes;
            case 3: return to.count - leader.ledOnes;
            case 4: return mover.pairs;
            case 5: return mover.nodes;
            default: return OUTSIDE;
        }
    }

    public int moved(int s, int t, int i) {
        if (!leads(s, t)) {
            return UNKNOWN;
        }
        return mover.pairAt(i);
    }

    // ---- 3 common

    public int common(int s, int i, int t, int k, int u) {
        Tree one = treeAt(s);
        Tree two = treeAt(t);
        if (one == null || two == null || treeAt(u) == null || !one.has(i) || !two.has(k)) {
            return UNKNOWN;
        }
        if (one.holeCount() > 0 || two.holeCount() > 0) {
            return STATE;
        }
        if (!commoner.find(one, i, two, k, work)) {
            return NO;
        }
        become(u, work);
        return commoner.holes;
    }

    public int twice(int t, int what) {
        Tree tree = filledAt(t);
        if (tree == null) {
            return UNKNOWN;
        }
        if (what < 0 || what > 2) {
            return OUTSIDE;
        }
        int first = NONE;
        int second = NONE;
        int greatest = NONE;
        for (int i = 0; i < tree.count; i++) {
            for (int k = i + 1; k < tree.count; k++) {
                if (tree.size[i] > greatest && tree.isAs(i, tree, k)) {
                    greatest = tree.size[i];
                    first = i;
                    second = k;
                }
            }
        }
        return what == 0 ? greatest : what == 1 ? first : second;
    }

    // ---- 4 rules

    public int rule(int left, int right) {
        Tree from = filledAt(left);
        Tree to = filledAt(right);
        if (from == null || to == null) {
            return UNKNOWN;
        }
        if (rules.count >= MOST_RULES) {
            return FULL;
        }
        if (isHole(from.label[0]) || (to.holeBits() & ~from.holeBits()) != 0) {
            return NO;
        }
        overlapper.counted = false;
        return rules.append(from, to);
    }

    public int clear() {
        int were = rules.count;
        rules.count = 0;
        overlapper.counted = false;
        return were;
    }

    public int fits(int t, int i) {
        Tree tree = treeAt(t);
        if (tree == null || !tree.has(i)) {
            return UNKNOWN;
        }
        if (tree.holeCount() > 0) {
            return STATE;
        }
        int bits = 0;
        for (int r = 0; r < rules.count; r++) {
            if (rules.suits(r, tree, i)) {
                bits |= 1 << r;
            }
        }
        return bits;
    }

    public int make(int t, int i, int rule) {
        Tree tree = treeAt(t);
        if (tree == null || !tree.has(i) || !rules.has(rule)) {
            return UNKNOWN;
        }
        if (tree.holeCount() > 0) {
            return STATE;
        }
        work.copyAll(tree);
        int nodes = rules.rewrite(rule, work, i);
        if (nodes < 0) {
            return NO;
        }
        return nodes > MOST_NODES ? FULL : become(t, work);
    }

    public int walk(int t, boolean within) {
        Tree tree = filledAt(t);
        if (tree == null) {
            return UNKNOWN;
        }
        if (tree.holeCount() > 0) {
            return STATE;
        }
        work.copyAll(tree);
        int end = walker.run(work, within);
        latestSteps = walker.done;
        become(t, work);
        return end;
    }

    public int steps() {
        return latestSteps;
    }

    // ---- 5 overlaps

    public int overlap(int a, int b, int i) {
        int refused = refusedOverlap(a, b, i);
        return refused != 0 ? refused : overlapper.kindAt(a, b, i);
    }

    public int peak(int a, int b, int i, int u) {
        int refused = refusedOverlap(a, b, i);
        if (refused == UNKNOWN || treeAt(u) == null) {
            return UNKNOWN;
        }
        if (refused != 0) {
            return refused;
        }
        int found = overlapper.findPeak(a, b, i);
        if (found == Overlapper.MISSING) {
            return STATE;
        }
        if (found == Overlapper.TOO_GREAT || !overlapper.namePeak(work)) {
            return FULL;
        }
        return become(u, work);
    }

    public int overlaps(int what) {
        if (what < 0 || what >= overlapper.counts.length) {
            return OUTSIDE;
        }
        overlapper.countAll();
        return overlapper.counts[what];
    }

    public int told(int what) {
        if (what == 0) {
            return pad.count;
        }
        if (what == 1) {
            return rules.count;
        }
        Tree counted = treeAt(what - 10);
        if (counted != null) {
            return counted.count;
        }
        Tree holed = treeAt(what - 20);
        return holed != null ? holed.holeCount() : OUTSIDE;
    }

    // ---- what the calls share

    private Tree treeAt(int t) {
        return t >= 0 && t < trees.length ? trees[t] : null;
    }

    private Tree filledAt(int t) {
        Tree tree = treeAt(t);
        return tree != null && tree.count > 0 ? tree : null;
    }

    /** The one place where a TREE changes, so that nothing known of the old one stays. */
    private int become(int t, Tree from) {
        Tree tree = treeAt(t);
        if (tree == null) {
            return UNKNOWN;
        }
        tree.copyAll(from);
        forgetLeading();
        return tree.count;
    }

    private void forgetLeading() {
        knownFrom = -1;
        knownTo = -1;
    }

    /** Has THE LEAST of s to t and its MOVED pairs at hand; false: there is no such TREE, or it is empty. */
    private boolean leads(int s, int t) {
        Tree from = filledAt(s);
        Tree to = filledAt(t);
        if (from == null || to == null) {
            return false;
        }
        if (s != knownFrom || t != knownTo) {
            leader.lead(from, to);
            mover.pair(from, leader.partner, to, leader.source);
            knownFrom = s;
            knownTo = t;
        }
        return true;
    }

    /** 0: the call is not refused. */
    private int refusedOverlap(int a, int b, int i) {
        if (!rules.has(a) || !rules.has(b)) {
            return UNKNOWN;
        }
        Tree left = rules.lefts[a];
        if (!left.has(i)) {
            return UNKNOWN;
        }
        return isHole(left.label[i]) || (a == b && i == 0) ? NO : 0;
    }

    private static boolean isHole(int mark) {
        return mark >= 'A' && mark <= 'H';
    }

    private static boolean isLabel(int mark) {
        return mark >= 'a' && mark <= 'z';
    }

    /** NODES as written, each with its LABEL and how many PARTS it has; all else follows from these two. */
    private static final class Tree {
        int count;
        final int[] label = new int[MOST_NODES];
        final int[] parts = new int[MOST_NODES];
        final int[] size = new int[MOST_NODES];
        final int[] parent = new int[MOST_NODES];
        final int[] place = new int[MOST_NODES];
        final int[] depth = new int[MOST_NODES];

        boolean has(int i) {
            return i >= 0 && i < count;
        }

        void append(int mark, int many) {
            if (count < MOST_NODES) {
                label[count] = mark;
                parts[count] = many;
                count++;
            }
        }

        /** To be called when the last NODE is appended. */
        void settle() {
            for (int i = count - 1; i >= 0; i--) {
                int end = i + 1;
                for (int k = 0; k < parts[i] && end < count; k++) {
                    end += size[end];
                }
                size[i] = end - i;
            }
            parent[0] = NONE;
            place[0] = NONE;
            depth[0] = 0;
            for (int i = 0; i < count; i++) {
                int part = i + 1;
                for (int k = 0; k < parts[i] && part < count; k++) {
                    parent[part] = i;
                    place[part] = k;
                    depth[part] = depth[i] + 1;
                    part += size[part];
                }
            }
        }

        void appendPart(Tree from, int i) {
            if (!from.has(i)) {
                return;
            }
            for (int k = 0; k < from.size[i] && i + k < from.count; k++) {
                append(from.label[i + k], from.parts[i + k]);
            }
        }

        /** From is another object than this one. */
        void copyPart(Tree from, int i) {
            count = 0;
            appendPart(from, i);
            settle();
        }

        void copyAll(Tree from) {
            count = from.count;
            for (int i = 0; i < MOST_NODES; i++) {
                label[i] = from.label[i];
                parts[i] = from.parts[i];
                size[i] = from.size[i];
                parent[i] = from.parent[i];
                place[i] = from.place[i];
                depth[i] = from.depth[i];
            }
        }

        boolean isAs(int i, Tree other, int k) {
            if (!has(i) || !other.has(k) || size[i] != other.size[k]) {
                return false;
            }
            for (int n = 0; n < size[i] && i + n < count && k + n < other.count; n++) {
                if (label[i + n] != other.label[k + n] || parts[i + n] != other.parts[k + n]) {
                    return false;
                }
            }
            return true;
        }

        int holeBits() {
            int bits = 0;
            for (int i = 0; i < count; i++) {
                if (isHole(label[i])) {
                    bits |= 1 << (label[i] - 'A');
                }
            }
            return bits;
        }

        int holeCount() {
            return Integer.bitCount(holeBits());
        }

        int write(int[] into) {
            int many = 0;
            for (int i = 0; i < count; i++) {
                many = put(into, many, label[i]);
                if (parts[i] > 0) {
                    many = put(into, many, '(');
                    continue;
                }
                // behind a NODE without PARTS all close that the next NODE is not in
                int next = i + 1 < count ? depth[i + 1] : 0;
                for (int d = next; d < depth[i]; d++) {
                    many = put(into, many, ')');
                }
            }
            return many;
        }

        private static int put(int[] into, int many, int mark) {
            if (many < 0 || many >= into.length) {
                return many;
            }
            into[many] = mark;
            return many + 1;
        }
    }

    /** Signs that are to become a TREE. */
    private static final class Pad {
        int count;
        private final int[] signs = new int[MOST_SIGNS];

        boolean append(int mark) {
            if (count >= MOST_SIGNS) {
                return false;
            }
            signs[count] = mark;
            count++;
            return true;
        }

        /** -1: there is none. */
        int firstFault() {
            int open = 0;
            // 0 stands for what is ahead of the first sign
            int last = 0;
            for (int i = 0; i < count; i++) {
                int mark = signs[i];
                if (!mayFollow(last, mark, open)) {
                    return i;
                }
                if (mark == '(') {
                    open++;
                } else if (mark == ')') {
                    open--;
                }
                last = mark;
            }
            return last == 0 || open > 0 ? count : -1;
        }

        private static boolean mayFollow(int last, int mark, int open) {
            boolean starts = isLabel(mark) || isHole(mark);
            if (last == 0 || last == '(') {
                return starts;
            }
            if (mark == '(') {
                return isLabel(last);
            }
            return open > 0 && (starts || mark == ')');
        }

        /** How many NODES there are, if there is no fault. */
        int nodeCount() {
            int nodes = 0;
            for (int i = 0; i < count; i++) {
                if (signs[i] != '(' && signs[i] != ')') {
                    nodes++;
                }
            }
            return nodes;
        }

        /** To be called only without a fault and with no more NODES than a TREE may have. */
        void parse(Tree into) {
            into.count = 0;
            int open = NONE;
            for (int i = 0; i < count; i++) {
                if (signs[i] == '(') {
                    open = into.count - 1;
                } else if (signs[i] == ')') {
                    open = into.has(open) ? into.parent[open] : NONE;
                } else {
                    if (into.has(open)) {
                        into.parts[open]++;
                    }
                    into.append(signs[i], 0);
                    if (into.count > 0) {
                        into.parent[into.count - 1] = open;
                    }
                }
            }
            into.settle();
        }
    }

    /**
     * THE LEAST. A price here is two numbers, high and low, of which high counts first: in high the PRICE, then
     * five bits for the partner of each of the first eight NODES of s; in low five for each of the other eight.
     * Sums of such prices stay sums, as each NODE of s gives its bits once; so the least sum is the least PRICE
     * and of several the first by rows, and its bits tell the partners.
     */
    private static final class Leader {
        private static final int PRICE_AT = 40;
        private static final int BITS = 5;
        private static final int HALF = 8;
        private static final int ALONE = 16;
        private static final int SIDE = MOST_NODES + 1;
        // above every price
        private static final long FAR = 1L << 60;

        final int[] prices = {3, 3, 2};
        final int[] partner = new int[MOST_NODES];
        final int[] source = new int[MOST_NODES];
        int total;
        int ledOnes;
        int renamed;
        // least price of the TREES of NODE x of s and NODE y of t, one led to the other or not
        private final long[] treeHigh = new long[SIDE * SIDE];
        private final long[] treeLow = new long[SIDE * SIDE];
        // least price of what is written from NODE x and from NODE y on, up to the ends in hand
        private final long[] restHigh = new long[SIDE * SIDE];
        private final long[] restLow = new long[SIDE * SIDE];
        private long bestHigh;
        private long bestLow;

        void lead(Tree s, Tree t) {
            for (int i = s.count - 1; i >= 0; i--) {
                for (int k = t.count - 1; k >= 0; k--) {
                    if (endsAlone(s, i) && endsAlone(t, k)) {
                        weigh(s, i, t, k);
                    }
                }
            }
            tell(s, t);
        }

        /** Whether no NODE that this one is within ends where it ends: the prices of those hold for it too. */
        private static boolean endsAlone(Tree tree, int i) {
            int above = tree.parent[i];
            return !tree.has(above) || i + tree.size[i] != above + tree.size[above];
        }

        private void weigh(Tree s, int i, Tree t, int k) {
            int sEnd = i + s.size[i];
            int tEnd = k + t.size[k];
            restHigh[sEnd * SIDE + tEnd] = 0;
            restLow[sEnd * SIDE + tEnd] = 0;
            for (int x = sEnd - 1; x >= i; x--) {
                startOver();
                offerDrop(x, tEnd);
                keepRest(x, tEnd);
            }
            for (int y = tEnd - 1; y >= k; y--) {
                startOver();
                offerAdd(sEnd, y);
                keepRest(sEnd, y);
            }
            for (int x = sEnd - 1; x >= i; x--) {
                for (int y = tEnd - 1; y >= k; y--) {
                    weighPair(s, x, sEnd, t, y, tEnd);
                }
            }
        }

        private void weighPair(Tree s, int x, int sEnd, Tree t, int y, int tEnd) {
            int xEnd = x + s.size[x];
            int yEnd = y + t.size[y];
            startOver();
            offerDrop(x, y);
            offerAdd(x, y);
            if (xEnd == sEnd && yEnd == tEnd) {
                int within = (x + 1) * SIDE + y + 1;
                int price = s.label[x] == t.label[y] ? 0 : prices[2];
                offer(restHigh[within] + highOf(price, x, y), restLow[within] + lowOf(x, y));
                treeHigh[x * SIDE + y] = bestHigh;
                treeLow[x * SIDE + y] = bestLow;
            } else {
                int behind = xEnd * SIDE + yEnd;
                int both = x * SIDE + y;
                offer(restHigh[behind] + treeHigh[both], restLow[behind] + treeLow[both]);
            }
            keepRest(x, y);
        }

        private void startOver() {
            bestHigh = FAR;
            bestLow = FAR;
        }

        private void offer(long high, long low) {
            if (high < bestHigh || (high == bestHigh && low < bestLow)) {
                bestHigh = high;
                bestLow = low;
            }
        }

        private void offerDrop(int x, int y) {
            int behind = (x + 1) * SIDE + y;
            offer(restHigh[behind] + highOf(prices[0], x, ALONE), restLow[behind] + lowOf(x, ALONE));
        }

        private void offerAdd(int x, int y) {
            int behind = x * SIDE + y + 1;
            offer(restHigh[behind] + ((long) prices[1] << PRICE_AT), restLow[behind]);
        }

        private void keepRest(int x, int y) {
            restHigh[x * SIDE + y] = bestHigh;
            restLow[x * SIDE + y] = bestLow;
        }

        private static long highOf(int price, int x, int y) {
            long bits = x < HALF ? (long) y << (BITS * (HALF - 1 - x)) : 0;
            return ((long) price << PRICE_AT) + bits;
        }

        private static long lowOf(int x, int y) {
            return x < HALF ? 0 : (long) y << (BITS * (2 * HALF - 1 - x));
        }

        private void tell(Tree s, Tree t) {
            total = (int) (treeHigh[0] >> PRICE_AT);
            ledOnes = 0;
            renamed = 0;
            for (int y = 0; y < t.count; y++) {
                source[y] = UNLED;
            }
            for (int x = 0; x < s.count; x++) {
                int y = partnerBits(x);
                partner[x] = t.has(y) ? y : UNLED;
                if (t.has(y)) {
                    source[y] = x;
                    ledOnes++;
                    renamed += s.label[x] == t.label[y] ? 0 : 1;
                }
            }
        }

        private int partnerBits(int x) {
            long bits = x < HALF
                ? treeHigh[0] >> (BITS * (HALF - 1 - x))
                : treeLow[0] >> (BITS * (2 * HALF - 1 - x));
            return (int) (bits & 31);
        }
    }

    /** MOVED pairs. */
    private static final class Mover {
        int pairs;
        int nodes;
        private final int[] from = new int[MOST_NODES];
        private final int[] to = new int[MOST_NODES];
        // whether a NODE can be of no pair (any more): 1
        private final int[] usedFrom = new int[MOST_NODES];
        private final int[] usedTo = new int[MOST_NODES];

        /** partner and source: by NODE of s and t the NODE of the other, or UNLED. */
        void pair(Tree s, int[] partner, Tree t, int[] source) {
            pairs = 0;
            nodes = 0;
            useLed(s, partner, usedFrom);
            useLed(t, source, usedTo);
            for (int size = MOST_NODES; size > 0; size--) {
                for (int x = 0; x < s.count; x++) {
                    if (s.size[x] == size && usedFrom[x] == 0) {
                        pairFirst(s, x, t);
                    }
                }
            }
        }

        private static void useLed(Tree tree, int[] other, int[] used) {
            for (int i = 0; i < tree.count; i++) {
                used[i] = 0;
                for (int k = i; k < i + tree.size[i] && k < other.length; k++) {
                    if (other[k] != UNLED) {
                        used[i] = 1;
                    }
                }
            }
        }

        private void pairFirst(Tree s, int x, Tree t) {
            for (int y = 0; y < t.count; y++) {
                if (usedTo[y] == 0 && s.isAs(x, t, y) && pairs < MOST_NODES) {
                    from[pairs] = x;
                    to[pairs] = y;
                    pairs++;
                    nodes += s.size[x];
                    use(s, x, usedFrom);
                    use(t, y, usedTo);
                    return;
                }
            }
        }

        /** What lies within is used too; what it lies within is greater, so its turn is over. */
        private static void use(Tree tree, int i, int[] used) {
            for (int k = i; k < i + tree.size[i] && k < used.length; k++) {
                used[k] = 1;
            }
        }

        int pairAt(int i) {
            return i >= 0 && i < pairs && i < MOST_NODES ? 100 * from[i] + to[i] : NONE;
        }
    }

    /** COMMON of two NODES. */
    private static final class Commoner {
        int holes;
        private final int[] ones = new int[MOST_HOLES];
        private final int[] twos = new int[MOST_HOLES];

        /** False: it takes more HOLES than there are. */
        boolean find(Tree s, int i, Tree t, int k, Tree into) {
            holes = 0;
            into.count = 0;
            int end = s.has(i) ? i + s.size[i] : i;
            int x = i;
            int y = k;
            for (int n = 0; n < MOST_NODES && x < end && s.has(x) && t.has(y); n++) {
                if (s.label[x] == t.label[y] && s.parts[x] == t.parts[y]) {
                    into.append(s.label[x], s.parts[x]);
                    x++;
                    y++;
                } else {
                    int hole = holeFor(s, x, t, y);
                    if (hole < 0) {
                        return false;
                    }
                    into.append('A' + hole, 0);
                    x += s.size[x];
                    y += t.size[y];
                }
            }
            into.settle();
            return true;
        }

        private int holeFor(Tree s, int x, Tree t, int y) {
            for (int h = 0; h < holes; h++) {
                if (s.isAs(x, s, ones[h]) && t.isAs(y, t, twos[h])) {
                    return h;
                }
            }
            if (holes >= MOST_HOLES) {
                return -1;
            }
            ones[holes] = x;
            twos[holes] = y;
            holes++;
            return holes - 1;
        }
    }

    /** RULES, and what one does at a NODE. */
    private static final class Rules {
        int count;
        final Tree[] lefts = new Tree[MOST_RULES];
        private final Tree[] rights = new Tree[MOST_RULES];
        // the NODE whose TREE stands for each HOLE of the RULE that was tried last; -1: none
        private final int[] stands = new int[MOST_HOLES];
        private final Tree built = new Tree();

        Rules() {
            for (int r = 0; r < MOST_RULES; r++) {
                lefts[r] = new Tree();
                rights[r] = new Tree();
            }
        }

        boolean has(int r) {
            return r >= 0 && r < count && r < MOST_RULES;
        }

        /** To be called only while there is room. */
        int append(Tree left, Tree right) {
            if (count >= MOST_RULES) {
                return FULL;
            }
            lefts[count].copyAll(left);
            rights[count].copyAll(right);
            count++;
            return count - 1;
        }

        /** Whether the RULE FITS NODE i. */
        boolean suits(int r, Tree t, int i) {
            if (!has(r) || !t.has(i) || lefts[r].label[0] != t.label[i]) {
                return false;
            }
            for (int h = 0; h < MOST_HOLES; h++) {
                stands[h] = -1;
            }
            Tree left = lefts[r];
            int at = i;
            for (int p = 0; p < left.count; p++) {
                if (!t.has(at)) {
                    return false;
                }
                if (isHole(left.label[p])) {
                    int hole = left.label[p] - 'A';
                    if (stands[hole] < 0) {
                        stands[hole] = at;
                    } else if (!t.isAs(stands[hole], t, at)) {
                        return false;
                    }
                    at += t.size[at];
                } else if (left.label[p] == t.label[at] && left.parts[p] == t.parts[at]) {
                    at++;
                } else {
                    return false;
                }
            }
            return true;
        }

        /** NODES that t has or, if too many, would have then, and stays as it is; -1: the RULE does not FIT. */
        int rewrite(int r, Tree t, int i) {
            if (!suits(r, t, i)) {
                return -1;
            }
            int nodes = nodesThen(rights[r], t, i);
            if (nodes > MOST_NODES) {
                return nodes;
            }
            built.count = 0;
            for (int k = 0; k < i; k++) {
                built.append(t.label[k], t.parts[k]);
            }
            for (int p = 0; p < rights[r].count; p++) {
                int mark = rights[r].label[p];
                if (isHole(mark)) {
                    built.appendPart(t, stands[mark - 'A']);
                } else {
                    built.append(mark, rights[r].parts[p]);
                }
            }
            for (int k = i + t.size[i]; k < t.count; k++) {
                built.append(t.label[k], t.parts[k]);
            }
            built.settle();
            t.copyAll(built);
            return nodes;
        }

        private int nodesThen(Tree right, Tree t, int i) {
            int nodes = t.count - t.size[i];
            for (int p = 0; p < right.count; p++) {
                int mark = right.label[p];
                int stood = isHole(mark) ? stands[mark - 'A'] : -1;
                nodes += t.has(stood) ? t.size[stood] : 1;
            }
            return nodes;
        }
    }

    /** A WALK. */
    private static final class Walker {
        int done;
        private final Rules rules;
        private final int[] order = new int[MOST_NODES];
        // the TREE behind each step and at first: NODES, and of each its LABEL and PARTS in one number
        private final int[] pastCount = new int[MOST_STEPS + 1];
        private final int[] past = new int[(MOST_STEPS + 1) * MOST_NODES];
        private int foundNode;
        private int foundRule;

        Walker(Rules rules) {
            this.rules = rules;
        }

        /** How it ended. */
        int run(Tree t, boolean within) {
            for (int n = 0; n <= MOST_STEPS; n++) {
                done = n;
                remember(t, n);
                if (wasBefore(n)) {
                    return 1;
                }
                if (!findFirst(t, within)) {
                    return 0;
                }
                if (n == MOST_STEPS) {
                    return 3;
                }
                if (rules.rewrite(foundRule, t, foundNode) > MOST_NODES) {
                    return 2;
                }
            }
            return 3;
        }

        private void remember(Tree t, int n) {
            pastCount[n] = t.count;
            for (int i = 0; i < t.count; i++) {
                past[n * MOST_NODES + i] = t.label[i] * MOST_NODES + t.parts[i];
            }
        }

        private boolean wasBefore(int n) {
            for (int k = 0; k < n; k++) {
                if (pastCount[k] == pastCount[n] && isSamePast(k, n)) {
                    return true;
                }
            }
            return false;
        }

        private boolean isSamePast(int k, int n) {
            for (int i = 0; i < pastCount[k]; i++) {
                if (past[k * MOST_NODES + i] != past[n * MOST_NODES + i]) {
                    return false;
                }
            }
            return true;
        }

        private boolean findFirst(Tree t, boolean within) {
            for (int i = 0; i < t.count; i++) {
                // from within: ahead of a NODE is all ahead of it as written that it is not in, and all in it
                int turn = within ? i - t.depth[i] + t.size[i] - 1 : i;
                if (turn >= 0 && turn < MOST_NODES) {
                    order[turn] = i;
                }
            }
            for (int n = 0; n < t.count; n++) {
                for (int r = 0; r < rules.count; r++) {
                    if (rules.suits(r, t, order[n])) {
                        foundNode = order[n];
                        foundRule = r;
                        return true;
                    }
                }
            }
            return false;
        }
    }

    /**
     * The most general way to make a NODE of one left TREE and another left TREE alike. TERMS are the NODES of the
     * first, the NODES of the second, the HOLES of the first and those of the second; TERMS that must be alike are
     * KIN and bear one number.
     */
    private static final class Joiner {
        private static final int NODE_TERMS = 2 * MOST_NODES;
        private static final int TERMS = NODE_TERMS + 2 * MOST_HOLES;
        private static final int ROOM = 2 * TERMS;
        private static final int CAP = 1000;

        private final int[] label = new int[NODE_TERMS];
        private final int[] parts = new int[NODE_TERMS];
        private final int[] size = new int[NODE_TERMS];
        // by NODE its TERM: itself or, for a HOLE, the one that all NODES with that HOLE have
        private final int[] term = new int[NODE_TERMS];
        private final int[] kin = new int[TERMS];
        // by number of KIN: a NODE of theirs that is no HOLE, or -1
        private final int[] shape = new int[TERMS];
        // by number of KIN: NODES that they have, at most CAP; 0: not known yet
        private final int[] heft = new int[TERMS];
        // pairs of NODES that are to be joined yet; when all are joined, KIN that are to be written yet
        private final int[] ones = new int[ROOM];
        private final int[] twos = new int[ROOM];
        private int waiting;
        private final int[] holeMark = new int[TERMS];

        boolean join(Tree first, int i, Tree second) {
            load(first, 0, NODE_TERMS);
            load(second, MOST_NODES, NODE_TERMS + MOST_HOLES);
            for (int x = 0; x < TERMS; x++) {
                kin[x] = x;
                shape[x] = x < NODE_TERMS ? x : -1;
            }
            waiting = 0;
            await(i, MOST_NODES);
            for (int n = 0; n < ROOM && waiting > 0; n++) {
                waiting--;
                if (!joinKin(kin[term[ones[waiting]]], kin[term[twos[waiting]]])) {
                    return false;
                }
            }
            return weigh();
        }

        private void load(Tree tree, int base, int holeBase) {
            for (int i = 0; i < MOST_NODES; i++) {
                boolean used = i < tree.count;
                label[base + i] = used ? tree.label[i] : 0;
                parts[base + i] = used ? tree.parts[i] : 0;
                size[base + i] = used ? tree.size[i] : 1;
                boolean hole = used && isHole(tree.label[i]);
                term[base + i] = hole ? holeBase + tree.label[i] - 'A' : base + i;
            }
        }

        private void await(int x, int y) {
            if (waiting < ROOM && x >= 0 && x < NODE_TERMS && y >= 0 && y < NODE_TERMS) {
                ones[waiting] = x;
                twos[waiting] = y;
                waiting++;
            }
        }

        private boolean joinKin(int p, int q) {
            if (p == q) {
                return true;
            }
            int x = shape[p];
            int y = shape[q];
            for (int k = 0; k < TERMS; k++) {
                if (kin[k] == q) {
                    kin[k] = p;
                }
            }
            if (x < 0) {
                shape[p] = y;
            }
            if (x < 0 || y < 0) {
                return true;
            }
            if (label[x] != label[y] || parts[x] != parts[y]) {
                return false;
            }
            int xPart = x + 1;
            int yPart = y + 1;
            for (int k = 0; k < parts[x] && xPart < NODE_TERMS && yPart < NODE_TERMS; k++) {
                await(xPart, yPart);
                xPart += size[xPart];
                yPart += size[yPart];
            }
            return true;
        }

        /** False: some KIN lie within themselves, so that their NODES can't be counted. */
        private boolean weigh() {
            for (int k = 0; k < TERMS; k++) {
                heft[k] = 0;
            }
            int known = 0;
            for (int round = 0; round < TERMS && known < TERMS; round++) {
                known = 0;
                for (int k = 0; k < TERMS; k++) {
                    if (heft[k] == 0) {
                        heft[k] = heftBy(shape[k]);
                    }
                    known += heft[k] > 0 ? 1 : 0;
                }
            }
            return known == TERMS;
        }

        /** 0: not known yet. */
        private int heftBy(int node) {
            if (node < 0 || node >= NODE_TERMS) {
                return 1;
            }
            int sum = 1;
            int part = node + 1;
            for (int k = 0; k < parts[node] && part < NODE_TERMS; k++) {
                int more = heft[kin[term[part]]];
                if (more == 0) {
                    return 0;
                }
                sum += more;
                part += size[part];
            }
            return Math.min(sum, CAP);
        }

        /** NODES of the first TREE with its HOLES put. */
        int nodes() {
            return heft[kin[0]];
        }

        /** Which NODE of the first TREE with its HOLES put is what was its NODE i. */
        int placeOf(int i) {
            int place = 0;
            for (int k = 0; k < i && k < MOST_NODES; k++) {
                place += isHole(label[k]) ? heft[kin[term[k]]] : 1;
            }
            return place;
        }

        /** To be called only if nodes() are not too many. HOLES are 1, 2, and so on: no sign, so LABELS of their own. */
        int write(Tree into) {
            for (int k = 0; k < TERMS; k++) {
                holeMark[k] = 0;
            }
            int holes = 0;
            into.count = 0;
            ones[0] = kin[0];
            waiting = 1;
            for (int n = 0; n < MOST_NODES && waiting > 0; n++) {
                waiting--;
                int own = ones[waiting];
                int node = shape[own];
                if (node >= 0) {
                    into.append(label[node], parts[node]);
                    awaitParts(node);
                } else {
                    if (holeMark[own] == 0) {
                        holes++;
                        holeMark[own] = holes;
                    }
                    into.append(holeMark[own], 0);
                }
            }
            into.settle();
            return holes;
        }

        /** The first part is to be the next that is written, so it comes last. */
        private void awaitParts(int node) {
            int part = node + 1;
            int top = waiting + parts[node];
            for (int k = 1; k <= parts[node] && part < NODE_TERMS && top <= ROOM; k++) {
                ones[top - k] = kin[term[part]];
                part += size[part];
            }
            waiting = Math.min(top, ROOM);
        }
    }

    /** OVERLAPS of RULES. */
    private static final class Overlapper {
        static final int MISSING = 0;
        static final int APART = 1;
        static final int MEETING = 2;
        static final int TOO_GREAT = 3;

        // how many OVERLAPS there are, and of which kind; as long as counted, they hold
        boolean counted;
        final int[] counts = new int[4];
        private final Rules rules;
        private final Walker walker;
        private final Joiner joiner = new Joiner();
        private final Tree top = new Tree();
        private int topHoles;
        private final Tree byFirst = new Tree();
        private final Tree bySecond = new Tree();

        Overlapper(Rules rules, Walker walker) {
            this.rules = rules;
            this.walker = walker;
        }

        /** MISSING, TOO_GREAT, or another: the PEAK is in top. */
        int findPeak(int a, int b, int i) {
            if (!rules.has(a) || !rules.has(b) || !joiner.join(rules.lefts[a], i, rules.lefts[b])) {
                return MISSING;
            }
            if (joiner.nodes() > MOST_NODES) {
                return TOO_GREAT;
            }
            topHoles = joiner.write(top);
            return APART;
        }

        /** The PEAK with signs for HOLES; false: there are too many. */
        boolean namePeak(Tree into) {
            if (topHoles > MOST_HOLES) {
                return false;
            }
            into.count = 0;
            for (int i = 0; i < top.count; i++) {
                int mark = top.label[i];
                into.append(mark <= MOST_NODES ? 'A' + mark - 1 : mark, top.parts[i]);
            }
            into.settle();
            return true;
        }

        int kindAt(int a, int b, int i) {
            int found = findPeak(a, b, i);
            if (found != APART) {
                return found;
            }
            byFirst.copyAll(top);
            bySecond.copyAll(top);
            int first = rules.rewrite(a, byFirst, 0);
            int second = rules.rewrite(b, bySecond, joiner.placeOf(i));
            if (first > MOST_NODES || second > MOST_NODES) {
                return TOO_GREAT;
            }
            if (walker.run(byFirst, true) != 0 || walker.run(bySecond, true) != 0) {
                return APART;
            }
            return byFirst.isAs(0, bySecond, 0) ? MEETING : APART;
        }

        void countAll() {
            if (counted) {
                return;
            }
            for (int kind = 0; kind < counts.length; kind++) {
                counts[kind] = 0;
            }
            for (int a = 0; a < rules.count; a++) {
                Tree left = rules.lefts[a];
                for (int b = 0; b < rules.count; b++) {
                    for (int i = a == b ? 1 : 0; i < left.count; i++) {
                        count(isHole(left.label[i]) ? MISSING : kindAt(a, b, i));
                    }
                }
            }
            counted = true;
        }

        private void count(int kind) {
            if (kind == MISSING) {
                return;
            }
            counts[0]++;
            counts[kind == MEETING ? 1 : kind == APART ? 2 : 3]++;
        }
    }
}

import java.util.ArrayList;
import java.util.Arrays;
import java.util.HashMap;
import java.util.LinkedHashSet;
import java.util.List;
import java.util.Map;
import java.util.Set;

/** The document once more, written as plainly as can be and in other ways than the class: terms, lists, texts. */
final class Model {
    static final int NONE = -6, UNKNOWN = -1, OUTSIDE = -2, STATE = -3, FULL = -4, NO = -5;

    /** A TREE; equal if written alike. */
    record Term(String mark, List<Term> parts) {
        boolean isHole() {
            return mark.length() == 1 && mark.charAt(0) >= 'A' && mark.charAt(0) <= 'H' || mark.startsWith("?");
        }

        int size() {
            int n = 1;
            for (Term p : parts) n = Math.min(n + p.size(), 1_000_000);
            return n;
        }

        String text() {
            StringBuilder b = new StringBuilder(mark);
            if (!parts.isEmpty()) {
                b.append('(');
                for (Term p : parts) b.append(p.text());
                b.append(')');
            }
            return b.toString();
        }

        Set<String> holes() {
            Set<String> all = new LinkedHashSet<>();
            if (isHole()) all.add(mark);
            for (Term p : parts) all.addAll(p.holes());
            return all;
        }
    }

    /** A NODE of a TREE by its way there from NODE 0. */
    record Spot(Term term, List<Integer> way) { }

    record Rule(Term left, Term right) { }

    final StringBuilder pad = new StringBuilder();
    final Term[] trees = new Term[6];
    final int[] prices = {3, 3, 2};
    final List<Rule> rules = new ArrayList<>();
    int latestSteps = NONE;

    // ---- what NODES there are

    static List<Spot> spots(Term t) {
        List<Spot> all = new ArrayList<>();
        if (t != null) addSpots(t, List.of(), all);
        return all;
    }

    private static void addSpots(Term t, List<Integer> way, List<Spot> all) {
        all.add(new Spot(t, way));
        for (int k = 0; k < t.parts.size(); k++) {
            List<Integer> on = new ArrayList<>(way);
            on.add(k);
            addSpots(t.parts.get(k), on, all);
        }
    }

    boolean isTree(int t) { return t >= 0 && t < 6; }

    boolean isFilled(int t) { return isTree(t) && trees[t] != null; }

    boolean isNode(int t, int i) { return isFilled(t) && i >= 0 && i < trees[t].size(); }

    Term at(int t, int i) { return spots(trees[t]).get(i).term; }

    boolean isPlain(Term t) { return t.holes().isEmpty(); }

    // ---- 1 trees

    int say(int sign) {
        if (sign < 33 || sign > 126) return OUTSIDE;
        if (pad.length() == 60) return FULL;
        pad.append((char) sign);
        return pad.length();
    }

    int wipe() {
        int n = pad.length();
        pad.setLength(0);
        return n;
    }

    /** How a text that starts a TREE could go on: the signs that may come, with '.' for that it may end. */
    static String mayCome(String text) {
        String trees = "abcdefghijklmnopqrstuvwxyzABCDEFGH";
        if (text.isEmpty()) return trees;
        int depth = 0;
        for (char c : text.toCharArray()) depth += c == '(' ? 1 : c == ')' ? -1 : 0;
        char last = text.charAt(text.length() - 1);
        if (last == '(') return trees;
        String more = depth > 0 ? trees + ")" : ".";
        return Character.isLowerCase(last) ? more + "(" : more;
    }

    int fault() {
        for (int i = 0; i < pad.length(); i++) {
            if (pad.charAt(i) == '.' || mayCome(pad.substring(0, i)).indexOf(pad.charAt(i)) < 0) return i;
        }
        return mayCome(pad.toString()).indexOf('.') >= 0 ? NONE : pad.length();
    }

    static Term parse(String text) {
        int[] at = {0};
        return parse(text, at);
    }

    private static Term parse(String text, int[] at) {
        String mark = text.substring(at[0], at[0] + 1);
        at[0]++;
        List<Term> parts = new ArrayList<>();
        if (at[0] < text.length() && text.charAt(at[0]) == '(') {
            at[0]++;
            while (text.charAt(at[0]) != ')') parts.add(parse(text, at));
            at[0]++;
        }
        return new Term(mark, parts);
    }

    int read(int t) {
        if (!isTree(t)) return UNKNOWN;
        if (fault() != NONE) return NO;
        Term term = parse(pad.toString());
        if (term.size() > 16) return FULL;
        pad.setLength(0);
        trees[t] = term;
        return term.size();
    }

    int node(int t, int i, int what) {
        if (!isNode(t, i)) return UNKNOWN;
        List<Spot> all = spots(trees[t]);
        Spot spot = all.get(i);
        List<Integer> way = spot.way;
        switch (what) {
            case 0: return spot.term.mark.charAt(0);
            case 1:
                if (way.isEmpty()) return NONE;
                List<Integer> up = way.subList(0, way.size() - 1);
                for (int k = 0; k < all.size(); k++) if (all.get(k).way.equals(up)) return k;
                throw new IllegalStateException();
            case 2: return way.isEmpty() ? NONE : way.get(way.size() - 1);
            case 3: return spot.term.parts.size();
            case 4: return spot.term.size();
            case 5: return way.size();
            default: return OUTSIDE;
        }
    }

    int sign(int t, int i) {
        if (!isFilled(t)) return UNKNOWN;
        String text = trees[t].text();
        if (i == -1) return text.length();
        return i >= 0 && i < text.length() ? text.charAt(i) : NONE;
    }

    int take(int t, int i, int u) {
        if (!isNode(t, i) || !isTree(u)) return UNKNOWN;
        trees[u] = at(t, i);
        return trees[u].size();
    }

    int alike(int s, int i, int t, int k) {
        if (!isNode(s, i) || !isNode(t, k)) return UNKNOWN;
        return at(s, i).text().equals(at(t, k).text()) ? 1 : 0;
    }

    // ---- 2 edits

    int price(int which, int v) {
        if (which < 0 || which > 2 || v < 0 || v > 9) return OUTSIDE;
        int was = prices[which];
        prices[which] = v;
        return was;
    }

    /** A price and, for each NODE of s, the partner (99: none; -1: not in this part). */
    record Lead(int price, int[] row) {
        boolean isAheadOf(Lead o) {
            if (price != o.price) return price < o.price;
            return Arrays.compare(row, o.row) < 0;
        }

        Lead with(Lead o) {
            int[] all = row.clone();
            for (int i = 0; i < all.length; i++) if (o.row[i] >= 0) all[i] = o.row[i];
            return new Lead(price + o.price, all);
        }

        Lead with(int more, int x, int y) {
            int[] all = row.clone();
            if (x >= 0) all[x] = y;
            return new Lead(price + more, all);
        }
    }

    private List<Spot> sSpots, tSpots;
    private final Map<String, Lead> known = new HashMap<>();

    Lead theLeast(int s, int t) {
        sSpots = spots(trees[s]);
        tSpots = spots(trees[t]);
        known.clear();
        return leadForests(List.of(0), List.of(0));
    }

    private static List<Integer> partsOf(List<Spot> all, int i) {
        List<Integer> parts = new ArrayList<>();
        int next = i + 1;
        for (Term p : all.get(i).term.parts) {
            parts.add(next);
            next += p.size();
        }
        return parts;
    }

    private static List<Integer> join(List<Integer> one, List<Integer> two) {
        List<Integer> all = new ArrayList<>(one);
        all.addAll(two);
        return all;
    }

    /** By the last TREE of each forest: drop its NODE, add the other's, or lead one to the other. */
    private Lead leadForests(List<Integer> f, List<Integer> g) {
        if (f.isEmpty() && g.isEmpty()) {
            int[] row = new int[sSpots.size()];
            Arrays.fill(row, -1);
            return new Lead(0, row);
        }
        String key = f + "/" + g;
        Lead best = known.get(key);
        if (best != null) return best;
        int x = f.isEmpty() ? -1 : f.get(f.size() - 1);
        int y = g.isEmpty() ? -1 : g.get(g.size() - 1);
        List<Integer> fRest = x < 0 ? f : f.subList(0, f.size() - 1);
        List<Integer> gRest = y < 0 ? g : g.subList(0, g.size() - 1);
        if (x >= 0) best = leadForests(join(fRest, partsOf(sSpots, x)), g).with(prices[0], x, 99);
        if (y >= 0) {
            Lead add = leadForests(f, join(gRest, partsOf(tSpots, y))).with(prices[1], -1, 0);
            if (best == null || add.isAheadOf(best)) best = add;
        }
        if (x >= 0 && y >= 0) {
            boolean same = sSpots.get(x).term.mark.equals(tSpots.get(y).term.mark);
            Lead pair = leadForests(fRest, gRest)
                .with(leadForests(partsOf(sSpots, x), partsOf(tSpots, y)))
                .with(same ? 0 : prices[2], x, y);
            if (pair.isAheadOf(best)) best = pair;
        }
        known.put(key, best);
        return best;
    }

    /** As the document says it: all LEADINGS are tried. For small TREES only. */
    Lead theLeastByAll(int s, int t) {
        sSpots = spots(trees[s]);
        tSpots = spots(trees[t]);
        Lead[] best = new Lead[1];
        tryAll(0, new int[sSpots.size()], best);
        return best[0];
    }

    private void tryAll(int x, int[] row, Lead[] best) {
        if (x == row.length) {
            Lead lead = new Lead(priceOf(row), row.clone());
            if (best[0] == null || lead.isAheadOf(best[0])) best[0] = lead;
            return;
        }
        for (int y = 0; y < tSpots.size(); y++) {
            boolean may = true;
            for (int e = 0; e < x && may; e++) {
                if (row[e] == 99) continue;
                may = row[e] != y
                    && isWithin(sSpots, e, x) == isWithin(tSpots, row[e], y)
                    && isWithin(sSpots, x, e) == isWithin(tSpots, y, row[e])
                    && row[e] < y;
            }
            if (!may) continue;
            row[x] = y;
            tryAll(x + 1, row, best);
        }
        row[x] = 99;
        tryAll(x + 1, row, best);
    }

    private static boolean isWithin(List<Spot> all, int in, int out) {
        List<Integer> longer = all.get(in).way;
        List<Integer> way = all.get(out).way;
        return longer.size() > way.size() && longer.subList(0, way.size()).equals(way);
    }

    private int priceOf(int[] row) {
        int price = 0;
        int ledTo = 0;
        for (int x = 0; x < row.length; x++) {
            if (row[x] == 99) {
                price += prices[0];
            } else {
                ledTo++;
                if (!sSpots.get(x).term.mark.equals(tSpots.get(row[x]).term.mark)) price += prices[2];
            }
        }
        return price + prices[1] * (tSpots.size() - ledTo);
    }

    int least(int s, int t) {
        return isFilled(s) && isFilled(t) ? theLeast(s, t).price : UNKNOWN;
    }

    int led(int s, int t, int i) {
        return isNode(s, i) && isFilled(t) ? theLeast(s, t).row[i] : UNKNOWN;
    }

    List<int[]> movedPairs(int s, int t) {
        int[] row = theLeast(s, t).row;
        Set<Integer> usedS = new LinkedHashSet<>();
        Set<Integer> usedT = new LinkedHashSet<>();
        for (int x = 0; x < row.length; x++) {
            if (row[x] != 99) {
                usedS.add(x);
                usedT.add(row[x]);
            }
        }
        List<int[]> all = new ArrayList<>();
        for (int x = 0; x < sSpots.size(); x++) {
            for (int y = 0; y < tSpots.size(); y++) {
                if (sSpots.get(x).term.equals(tSpots.get(y).term)) all.add(new int[] {sSpots.get(x).term.size(), x, y});
            }
        }
        all.sort((p, q) -> p[0] != q[0] ? q[0] - p[0] : p[1] != q[1] ? p[1] - q[1] : p[2] - q[2]);
        List<int[]> pairs = new ArrayList<>();
        for (int[] p : all) {
            if (isFree(usedS, p[1], p[0]) && isFree(usedT, p[2], p[0])) {
                for (int k = 0; k < p[0]; k++) {
                    usedS.add(p[1] + k);
                    usedT.add(p[2] + k);
                }
                pairs.add(p);
            }
        }
        return pairs;
    }

    private static boolean isFree(Set<Integer> used, int i, int size) {
        for (int k = i; k < i + size; k++) if (used.contains(k)) return false;
        return true;
    }

    int edits(int s, int t, int what) {
        if (!isFilled(s) || !isFilled(t)) return UNKNOWN;
        int[] row = theLeast(s, t).row;
        int led = 0;
        int renamed = 0;
        for (int x = 0; x < row.length; x++) {
            if (row[x] == 99) continue;
            led++;
            if (!at(s, x).mark.equals(at(t, row[x]).mark)) renamed++;
        }
        switch (what) {
            case 0: return led;
            case 1: return renamed;
            case 2: return trees[s].size() - led;
            case 3: return trees[t].size() - led;
            case 4: return movedPairs(s, t).size();
            case 5: return movedPairs(s, t).stream().mapToInt(p -> p[0]).sum();
            default: return OUTSIDE;
        }
    }

    int moved(int s, int t, int i) {
        if (!isFilled(s) || !isFilled(t)) return UNKNOWN;
        List<int[]> pairs = movedPairs(s, t);
        return i >= 0 && i < pairs.size() ? 100 * pairs.get(i)[1] + pairs.get(i)[2] : NONE;
    }

    // ---- 3 common

    private Term common(Term a, Term b, List<String> pairs) {
        if (a.mark.equals(b.mark) && a.parts.size() == b.parts.size()) {
            List<Term> parts = new ArrayList<>();
            for (int k = 0; k < a.parts.size(); k++) parts.add(common(a.parts.get(k), b.parts.get(k), pairs));
            return new Term(a.mark, parts);
        }
        String pair = a.text() + "/" + b.text();
        if (!pairs.contains(pair)) pairs.add(pair);
        return new Term("" + (char) ('A' + pairs.indexOf(pair)), List.of());
    }

    int common(int s, int i, int t, int k, int u) {
        if (!isNode(s, i) || !isNode(t, k) || !isTree(u)) return UNKNOWN;
        if (!isPlain(trees[s]) || !isPlain(trees[t])) return STATE;
        List<String> pairs = new ArrayList<>();
        Term c = common(at(s, i), at(t, k), pairs);
        if (pairs.size() > 8) return NO;
        trees[u] = c;
        return pairs.size();
    }

    int twice(int t, int what) {
        if (!isFilled(t)) return UNKNOWN;
        if (what < 0 || what > 2) return OUTSIDE;
        List<Spot> all = spots(trees[t]);
        for (int size = 16; size > 0; size--) {
            for (int x = 0; x < all.size(); x++) {
                for (int y = x + 1; y < all.size(); y++) {
                    if (isWithin(all, y, x) || all.get(x).term.size() != size) continue;
                    if (all.get(x).term.equals(all.get(y).term)) return what == 0 ? size : what == 1 ? x : y;
                }
            }
        }
        return NONE;
    }

    // ---- 4 rules

    int rule(int left, int right) {
        if (!isFilled(left) || !isFilled(right)) return UNKNOWN;
        if (rules.size() == 6) return FULL;
        if (trees[left].isHole() || !trees[left].holes().containsAll(trees[right].holes())) return NO;
        rules.add(new Rule(trees[left], trees[right]));
        return rules.size() - 1;
    }

    int clear() {
        int n = rules.size();
        rules.clear();
        return n;
    }

    /** HOLES of the document's are put; marks that start with '?' are LABELS here. */
    private static boolean match(Term left, Term t, Map<String, Term> put) {
        if (left.isHole()) {
            Term was = put.putIfAbsent(left.mark, t);
            return was == null || was.equals(t);
        }
        if (!left.mark.equals(t.mark) || left.parts.size() != t.parts.size()) return false;
        for (int k = 0; k < left.parts.size(); k++) if (!match(left.parts.get(k), t.parts.get(k), put)) return false;
        return true;
    }

    private static Term fill(Term t, Map<String, Term> put) {
        if (t.isHole()) return put.getOrDefault(t.mark, t);
        List<Term> parts = new ArrayList<>();
        for (Term p : t.parts) parts.add(fill(p, put));
        return new Term(t.mark, parts);
    }

    private static Term replaced(Term t, List<Integer> way, Term by) {
        if (way.isEmpty()) return by;
        List<Term> parts = new ArrayList<>(t.parts);
        parts.set(way.get(0), replaced(parts.get(way.get(0)), way.subList(1, way.size()), by));
        return new Term(t.mark, parts);
    }

    /** null: it does not FIT. */
    private static Term done(Rule rule, Term t, Spot spot) {
        Map<String, Term> put = new HashMap<>();
        return match(rule.left, spot.term, put) ? replaced(t, spot.way, fill(rule.right, put)) : null;
    }

    int fits(int t, int i) {
        if (!isNode(t, i)) return UNKNOWN;
        if (!isPlain(trees[t])) return STATE;
        int bits = 0;
        for (int r = 0; r < rules.size(); r++) {
            if (match(rules.get(r).left, at(t, i), new HashMap<>())) bits += 1 << r;
        }
        return bits;
    }

    int make(int t, int i, int rule) {
        if (!isNode(t, i) || rule < 0 || rule >= rules.size()) return UNKNOWN;
        if (!isPlain(trees[t])) return STATE;
        Term then = done(rules.get(rule), trees[t], spots(trees[t]).get(i));
        if (then == null) return NO;
        if (then.size() > 16) return FULL;
        trees[t] = then;
        return then.size();
    }

    private static void addFromWithin(Term t, List<Integer> way, List<Spot> all) {
        for (int k = 0; k < t.parts.size(); k++) addFromWithin(t.parts.get(k), join(way, List.of(k)), all);
        all.add(new Spot(t, way));
    }

    /** null: no RULE FITS. */
    private Term next(Term t, boolean within) {
        List<Spot> order = new ArrayList<>();
        if (within) {
            addFromWithin(t, List.of(), order);
        } else {
            order = spots(t);
        }
        for (Spot spot : order) {
            for (Rule rule : rules) {
                Term then = done(rule, t, spot);
                if (then != null) return then;
            }
        }
        return null;
    }

    record Walk(int end, int steps, Term term) { }

    private Walk walkOf(Term t, boolean within) {
        List<Term> past = new ArrayList<>();
        for (int n = 0;; n++) {
            Term then = next(t, within);
            if (then == null) return new Walk(0, n, t);
            if (past.contains(t)) return new Walk(1, n, t);
            if (n == 100) return new Walk(3, n, t);
            if (then.size() > 16) return new Walk(2, n, t);
            past.add(t);
            t = then;
        }
    }

    int walk(int t, boolean within) {
        if (!isFilled(t)) return UNKNOWN;
        if (!isPlain(trees[t])) return STATE;
        Walk walk = walkOf(trees[t], within);
        trees[t] = walk.term;
        latestSteps = walk.steps;
        return walk.end;
    }

    int steps() { return latestSteps; }

    // ---- 5 overlaps

    private static Term renamed(Term t, String suffix) {
        if (t.isHole()) return new Term("?" + t.mark + suffix, List.of());
        List<Term> parts = new ArrayList<>();
        for (Term p : t.parts) parts.add(renamed(p, suffix));
        return new Term(t.mark, parts);
    }

    private static Term put(Term t, String hole, Term by) {
        if (t.mark.equals(hole)) return by;
        List<Term> parts = new ArrayList<>();
        for (Term p : t.parts) parts.add(put(p, hole, by));
        return new Term(t.mark, parts);
    }

    /** Robinson's way: the first place where both differ, till there is none; null: it can't be. */
    private static Map<String, Term> unify(Term a, Term b) {
        List<Term[]> open = new ArrayList<>();
        open.add(new Term[] {a, b});
        Map<String, Term> solved = new HashMap<>();
        while (!open.isEmpty()) {
            Term[] pair = open.remove(0);
            Term x = pair[0];
            Term y = pair[1];
            if (x.equals(y)) continue;
            if (!x.isHole() && y.isHole()) {
                Term z = x;
                x = y;
                y = z;
            }
            if (x.isHole()) {
                if (y.holes().contains(x.mark)) return null;
                String hole = x.mark;
                Term by = y;
                for (Term[] p : open) {
                    p[0] = put(p[0], hole, by);
                    p[1] = put(p[1], hole, by);
                }
                solved.replaceAll((h, t) -> put(t, hole, by));
                solved.put(hole, by);
                continue;
            }
            if (!x.mark.equals(y.mark) || x.parts.size() != y.parts.size()) return null;
            for (int k = 0; k < x.parts.size(); k++) open.add(new Term[] {x.parts.get(k), y.parts.get(k)});
        }
        return solved;
    }

    private int refused(int a, int b, int i) {
        if (a < 0 || a >= rules.size() || b < 0 || b >= rules.size()) return UNKNOWN;
        List<Spot> all = spots(rules.get(a).left);
        if (i < 0 || i >= all.size()) return UNKNOWN;
        return all.get(i).term.isHole() || a == b && i == 0 ? NO : 0;
    }

    /** PEAK, what a makes of it, what b makes of it; null: no OVERLAP. */
    private Term[] peakOf(int a, int b, int i) {
        Term left = renamed(rules.get(a).left, "1");
        Spot spot = spots(left).get(i);
        Map<String, Term> put = unify(spot.term, renamed(rules.get(b).left, "2"));
        if (put == null) return null;
        Term peak = fill(left, put);
        Term byA = fill(renamed(rules.get(a).right, "1"), put);
        Term byB = replaced(peak, spot.way, fill(renamed(rules.get(b).right, "2"), put));
        return new Term[] {peak, byA, byB};
    }

    /** HOLES as LABELS: marks that no sign is. */
    private static Term frozen(Term t) {
        List<Term> parts = new ArrayList<>();
        for (Term p : t.parts) parts.add(frozen(p));
        return new Term(t.mark.replace('?', '#'), parts);
    }

    int overlap(int a, int b, int i) {
        int refused = refused(a, b, i);
        if (refused != 0) return refused;
        Term[] all = peakOf(a, b, i);
        if (all == null) return 0;
        if (all[0].size() > 16 || all[1].size() > 16 || all[2].size() > 16) return 3;
        Walk one = walkOf(frozen(all[1]), true);
        Walk two = walkOf(frozen(all[2]), true);
        return one.end == 0 && two.end == 0 && one.term.equals(two.term) ? 2 : 1;
    }

    int peak(int a, int b, int i, int u) {
        int refused = refused(a, b, i);
        if (refused == UNKNOWN || !isTree(u)) return UNKNOWN;
        if (refused != 0) return refused;
        Term[] all = peakOf(a, b, i);
        if (all == null) return STATE;
        List<String> holes = new ArrayList<>(all[0].holes());
        if (all[0].size() > 16 || holes.size() > 8) return FULL;
        Map<String, Term> names = new HashMap<>();
        for (String h : holes) names.put(h, new Term("" + (char) ('A' + holes.indexOf(h)), List.of()));
        trees[u] = fill(all[0], names);
        return trees[u].size();
    }

    int overlaps(int what) {
        if (what < 0 || what > 3) return OUTSIDE;
        int[] kinds = new int[4];
        for (int a = 0; a < rules.size(); a++) {
            for (int b = 0; b < rules.size(); b++) {
                for (int i = 0; i < rules.get(a).left.size(); i++) {
                    int kind = overlap(a, b, i);
                    if (kind > 0) kinds[kind]++;
                }
            }
        }
        return what == 0 ? kinds[1] + kinds[2] + kinds[3] : what == 1 ? kinds[2] : what == 2 ? kinds[1] : kinds[3];
    }

    int told(int what) {
        if (what == 0) return pad.length();
        if (what == 1) return rules.size();
        if (what >= 10 && what <= 15) return isFilled(what - 10) ? trees[what - 10].size() : 0;
        if (what >= 20 && what <= 25) return isFilled(what - 20) ? trees[what - 20].holes().size() : 0;
        return OUTSIDE;
    }
}

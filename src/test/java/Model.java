import java.util.ArrayDeque;
import java.util.ArrayList;
import java.util.Arrays;
import java.util.Deque;
import java.util.List;
import java.util.Set;
import java.util.TreeMap;
import java.util.TreeSet;

/**
 * The document told a second time, with maps and sets and word by word, to compare random runs of
 * calls with. It shares no code with the program.
 */
final class Model {
    static final class Unit {
        int above;
        int[] own = new int[64];
        int[] sum = new int[64];
        boolean stale;
        List<int[]> versions = new ArrayList<>();

        Unit copy() {
            Unit u = new Unit();
            u.above = above;
            u.own = own.clone();
            u.sum = sum.clone();
            u.stale = stale;
            u.versions = new ArrayList<>(versions);
            return u;
        }
    }

    static final class Fault extends RuntimeException {
        private static final long serialVersionUID = 1L;
        final int kind;
        final int place;

        Fault(int kind, int place) {
            this.kind = kind;
            this.place = place;
        }
    }

    TreeMap<Integer, Unit> units = new TreeMap<>();
    Deque<TreeMap<Integer, Unit>> acts = new ArrayDeque<>();
    List<int[]> limits = new ArrayList<>();
    int state = 0;
    int[] counts = new int[11];
    List<Integer> tape = new ArrayList<>();
    int fault = 0;
    int place = -1;
    String chosen = "";
    TreeMap<Integer, Unit> imageUnits = null;
    List<int[]> imageLimits;
    int imageState;
    int[] imageCounts;

    Model() {
        units.put(0, unitBelow(-1));
    }

    static Unit unitBelow(int above) {
        Unit u = new Unit();
        u.above = above;
        return u;
    }

    static TreeMap<Integer, Unit> copyOf(TreeMap<Integer, Unit> from) {
        TreeMap<Integer, Unit> to = new TreeMap<>();
        for (int n : from.keySet()) to.put(n, from.get(n).copy());
        return to;
    }

    // ---- spans

    static Set<String> spans(int[] row) {
        Set<String> found = new TreeSet<>();
        for (int w : new int[] {64, 32, 16, 8, 4, 2, 1}) {
            for (int from = 0; from < 64; from += w) {
                for (int c = from; c < from + w; c++) {
                    if (row[c] > 0) found.add(w + ":" + from);
                }
            }
        }
        return found;
    }

    static int mergeCost(int[] a, int[] b) {
        Set<String> both = spans(a);
        both.retainAll(spans(b));
        return both.size();
    }

    static int splitCost(int[] row, int low, int high) {
        int cost = 0;
        for (int w = 1; w <= 64; w *= 2) {
            for (int from = 0; from < 64; from += w) {
                boolean within = false;
                boolean out = false;
                for (int c = from; c < from + w; c++) {
                    if (row[c] > 0 && c >= low && c <= high) within = true;
                    if (row[c] > 0 && (c < low || c > high)) out = true;
                }
                if (within && out) cost++;
            }
        }
        return cost;
    }

    static int[] plus(int[] a, int[] b) {
        int[] c = new int[64];
        for (int i = 0; i < 64; i++) c[i] = a[i] + b[i];
        return c;
    }

    static long all(int[] row) {
        long t = 0;
        for (int n : row) t += n;
        return t;
    }

    static int unlikeness(int[] a, int[] b) {
        int t = 0;
        for (int i = 0; i < 64; i++) t += a[i] > b[i] ? a[i] - b[i] : b[i] - a[i];
        return t;
    }

    // ---- the tree

    boolean has(int u) {
        return units.containsKey(u);
    }

    List<Integer> way(int u) {
        List<Integer> way = new ArrayList<>();
        for (int v = u; v != -1; v = units.get(v).above) way.add(v);
        return way;
    }

    int depth(int u) {
        return way(u).size() - 1;
    }

    List<Integer> belows(int u) {
        List<Integer> found = new ArrayList<>();
        for (int v : units.keySet()) if (units.get(v).above == u) found.add(v);
        return found;
    }

    List<Integer> branch(int u) {
        List<Integer> found = new ArrayList<>();
        for (int v : units.keySet()) if (way(v).contains(u)) found.add(v);
        return found;
    }

    int[] branchSum(int u) {
        int[] row = new int[64];
        for (int v : branch(u)) row = plus(row, units.get(v).own);
        return row;
    }

    void stale(int u) {
        for (int v : way(u)) units.get(v).stale = true;
    }

    void act() {
        acts.addLast(copyOf(units));
        if (acts.size() > 10) acts.removeFirst();
    }

    static boolean category(int c) {
        return c >= 0 && c <= 63;
    }

    static boolean span(int low, int high) {
        return category(low) && category(high) && low <= high;
    }

    // ---- acts

    int add(int u, int c, int n) {
        if (!has(u) || !category(c) || n == 0 || n < -9999 || n > 9999) return -1;
        int then = units.get(u).own[c] + n;
        if (then < 0 || then > 9999) return -1;
        act();
        units.get(u).own[c] = then;
        stale(u);
        return then;
    }

    boolean comes(int u, int below) {
        if (u < 0 || u > 23 || has(u) || !has(below) || depth(below) + 1 > 12) return false;
        act();
        units.put(u, unitBelow(below));
        counts[6]++;
        return true;
    }

    int goes(int u) {
        if (u == 0 || !has(u) || !belows(u).isEmpty()) return -1;
        int up = units.get(u).above;
        int[] sum = plus(units.get(up).own, units.get(u).own);
        for (int n : sum) if (n > 9999) return -1;
        act();
        int cost = mergeCost(units.get(up).own, units.get(u).own);
        units.get(up).own = sum;
        units.remove(u);
        stale(up);
        counts[0] += cost;
        counts[2]++;
        counts[7]++;
        return cost;
    }

    boolean canMove(int u, int below) {
        if (!has(u) || !has(below) || branch(u).contains(below) || units.get(u).above == below) return false;
        for (int v : branch(u)) {
            if (depth(v) - depth(u) + depth(below) + 1 > 12) return false;
        }
        return true;
    }

    void moved(int u, int below) {
        stale(units.get(u).above);
        units.get(u).above = below;
        stale(below);
    }

    int move(int u, int below) {
        if (!canMove(u, below)) return -1;
        act();
        moved(u, below);
        counts[5]++;
        return branch(u).size();
    }

    int give(int from, int to, int low, int high) {
        if (!has(from) || !has(to) || from == to || !span(low, high)) return -1;
        int[] part = new int[64];
        int[] rest = units.get(from).own.clone();
        for (int c = low; c <= high; c++) {
            part[c] = rest[c];
            rest[c] = 0;
        }
        int[] sum = plus(units.get(to).own, part);
        for (int n : sum) if (n > 9999) return -1;
        act();
        counts[1] += splitCost(units.get(from).own, low, high);
        counts[3]++;
        counts[0] += mergeCost(units.get(to).own, part);
        counts[2]++;
        counts[8] += all(part);
        units.get(from).own = rest;
        units.get(to).own = sum;
        stale(from);
        stale(to);
        return (int) all(part);
    }

    int rollUp(int u, int[] tally) {
        Unit unit = units.get(u);
        if (!unit.stale) return 0;
        int cost = 0;
        List<int[]> parts = new ArrayList<>();
        for (int v : belows(u)) {
            cost += rollUp(v, tally);
            parts.add(units.get(v).sum);
        }
        parts.add(unit.own);
        int kept = 0;
        for (int i = 1; i < parts.size(); i++) {
            if (spans(parts.get(i)).size() > spans(parts.get(kept)).size()) kept = i;
        }
        int[] row = parts.get(kept);
        for (int i = 0; i < parts.size(); i++) {
            if (i == kept) continue;
            cost += mergeCost(row, parts.get(i));
            tally[0]++;
            row = plus(row, parts.get(i));
        }
        unit.sum = row.clone();
        unit.stale = false;
        unit.versions.add(0, unit.sum.clone());
        if (unit.versions.size() > 8) unit.versions.remove(8);
        tally[1]++;
        return cost;
    }

    int roll(int u) {
        if (!has(u) || !units.get(u).stale) return -1;
        act();
        int[] tally = new int[2];
        int cost = rollUp(u, tally);
        counts[0] += cost;
        counts[2] += tally[0];
        counts[4] += tally[1];
        return cost;
    }

    int recode(int c, int other) {
        if (!category(c) || !category(other) || c == other) return -1;
        int entries = 0;
        for (Unit u : units.values()) {
            entries += u.own[c];
            if (u.own[c] > 0 && u.own[c] + u.own[other] > 9999) return -1;
        }
        if (entries == 0) return -1;
        act();
        for (int n : units.keySet()) {
            Unit u = units.get(n);
            if (u.own[c] == 0) continue;
            int[] part = new int[64];
            part[other] = u.own[c];
            counts[1] += splitCost(u.own, c, c);
            counts[3]++;
            u.own[c] = 0;
            counts[0] += mergeCost(u.own, part);
            counts[2]++;
            u.own = plus(u.own, part);
            stale(n);
        }
        counts[10] += entries;
        return entries;
    }

    int undo() {
        if (acts.isEmpty()) return -1;
        units = acts.removeLast();
        counts[9]++;
        return acts.size();
    }

    // ---- limits, state, tape

    int limit(int u, int low, int high, int n) {
        if (u < 0 || u > 23 || !span(low, high) || n < -1 || n > 999999) return -1;
        int[] found = null;
        for (int[] l : limits) if (l[0] == u && l[1] == low && l[2] == high) found = l;
        if (n == -1) {
            if (found == null) return -1;
            limits.remove(found);
        } else if (found != null) {
            limits.set(limits.indexOf(found), new int[] {u, low, high, n});
        } else {
            if (limits.size() == 12) return -1;
            limits.add(new int[] {u, low, high, n});
        }
        return limits.size();
    }

    int broken(int i, int what) {
        List<int[]> found = new ArrayList<>();
        for (int[] l : limits) {
            if (!has(l[0])) continue;
            int had = 0;
            for (int c = l[1]; c <= l[2]; c++) had += units.get(l[0]).sum[c];
            if (had > l[3]) found.add(new int[] {l[0], had - l[3]});
        }
        if (i == -1) return found.size();
        if (i < 0 || i >= found.size() || what < 0 || what > 1) return -1;
        return found.get(i)[what];
    }

    int state(int v) {
        int was = state;
        state = v;
        return was;
    }

    int feed(int... numbers) {
        if (tape.size() + 20 > 400) return -1;
        for (int n : numbers) {
            for (int k = 3; k >= 0; k--) tape.add(n >> 8 * k & 0xff);
        }
        return tape.size();
    }

    boolean end(int n) {
        if (n < 0 || n > tape.size()) return false;
        tape = new ArrayList<>(tape.subList(0, n));
        return true;
    }

    // ---- the text, by descent

    private int at;
    private int begin;
    private TreeMap<Integer, Unit> told;

    int peek() {
        while (at < tape.size() && tape.get(at) == 32) at++;
        return at < tape.size() ? tape.get(at) : -1;
    }

    void expect(char c) {
        if (peek() != c) throw new Fault(1, at);
        at++;
    }

    long number() {
        int c = peek();
        if (c < '0' || c > '9') throw new Fault(1, at);
        begin = at;
        StringBuilder digits = new StringBuilder();
        while (at < tape.size() && tape.get(at) >= '0' && tape.get(at) <= '9') {
            digits.append((char) (int) tape.get(at++));
        }
        return new java.math.BigInteger(digits.toString()).min(java.math.BigInteger.TEN.pow(9)).longValue();
    }

    void unitText(int above, int depth) {
        long n = number();
        if (depth == 0 ? n != 0 : n > 23) throw new Fault(2, begin);
        if (told.containsKey((int) n)) throw new Fault(3, begin);
        if (depth > 12) throw new Fault(4, begin);
        told.put((int) n, unitBelow(above));
        if (peek() != '(') return;
        at++;
        do {
            unitText((int) n, depth + 1);
        } while (peek() >= '0' && peek() <= '9');
        expect(')');
    }

    void entryText() {
        long n = number();
        if (n > 23 || !told.containsKey((int) n)) throw new Fault(2, begin);
        expect(':');
        while (true) {
            long c = number();
            if (c > 63) throw new Fault(2, begin);
            if (told.get((int) n).own[(int) c] > 0) throw new Fault(3, begin);
            expect('x');
            long k = number();
            if (k < 1 || k > 9999) throw new Fault(2, begin);
            told.get((int) n).own[(int) c] = (int) k;
            if (peek() != ',') return;
            at++;
        }
    }

    int text() {
        at = 0;
        told = new TreeMap<>();
        fault = 0;
        place = -1;
        try {
            unitText(-1, 0);
            while (peek() != -1) {
                expect(';');
                if (peek() != -1) entryText();
            }
        } catch (Fault f) {
            fault = f.kind;
            place = f.place;
        }
        tape.clear();
        if (fault != 0) return -1;
        act();
        units = told;
        for (Unit u : units.values()) u.stale = true;
        return units.size();
    }

    int fault(int what) {
        return what == 0 ? fault : what == 1 ? place : -1;
    }

    // ---- queries of the tree

    int unit(int u, int what) {
        if (!has(u)) return -1;
        Unit unit = units.get(u);
        switch (what) {
            case 0: return unit.above;
            case 1: return depth(u);
            case 2: return belows(u).size();
            case 3: return branch(u).size();
            case 4: return unit.stale ? 1 : 0;
            case 5: return Arrays.equals(unit.sum, branchSum(u)) ? 1 : 0;
            case 6: return (int) all(unit.own);
            case 7: return spans(unit.own).size();
            case 8: return (int) all(unit.sum);
            case 9: return spans(unit.sum).size();
            case 10: return leaders(unit.sum).size();
            case 11: return (int) all(branchSum(u));
            default: return -1;
        }
    }

    int below(int u, int i) {
        return has(u) && i >= 0 && i < belows(u).size() ? belows(u).get(i) : -1;
    }

    int above(int u, int k) {
        return has(u) && k >= 0 && k < way(u).size() ? way(u).get(k) : -1;
    }

    int both(int u, int v) {
        if (!has(u) || !has(v)) return -1;
        for (int w : way(u)) if (way(v).contains(w)) return w;
        throw new IllegalStateException();
    }

    int of(int u, int c, int what) {
        if (!has(u) || !category(c)) return -1;
        if (what == 0) return units.get(u).own[c];
        if (what == 1) return units.get(u).sum[c];
        return what == 2 ? branchSum(u)[c] : -1;
    }

    List<Integer> chainOf(int u, int v) {
        if (!has(u) || !has(v)) return null;
        int top = both(u, v);
        List<Integer> found = new ArrayList<>();
        for (int w : way(u)) {
            found.add(w);
            if (w == top) break;
        }
        for (int w : way(v)) {
            if (w == top) break;
            found.add(w);
        }
        return found;
    }

    int chain(int u, int v, int c) {
        if (chainOf(u, v) == null || c < -1 || c > 63) return -1;
        int t = 0;
        for (int w : chainOf(u, v)) t += c == -1 ? all(units.get(w).own) : units.get(w).own[c];
        return t;
    }

    int hops(int u, int v) {
        return chainOf(u, v) == null ? -1 : chainOf(u, v).size();
    }

    // ---- one sum

    static List<Integer> entries(int[] row) {
        List<Integer> found = new ArrayList<>();
        for (int c = 0; c < 64; c++) for (int i = 0; i < row[c]; i++) found.add(c);
        return found;
    }

    static List<Integer> leaders(int[] row) {
        List<Integer> found = new ArrayList<>();
        for (int c = 0; c < 64; c++) if (row[c] > 0) found.add(c);
        found.sort((a, b) -> row[a] != row[b] ? Integer.compare(row[b], row[a]) : Integer.compare(a, b));
        return found;
    }

    static int first(int[] row) {
        return leaders(row).isEmpty() ? -1 : leaders(row).get(0);
    }

    int ranked(int u, int rank) {
        if (!has(u) || rank < 0) return -1;
        int t = 0;
        for (int c = 0; c < 64; c++) {
            t += units.get(u).sum[c];
            if (rank < t) return c;
        }
        return -1;
    }

    int less(int u, int c) {
        if (!has(u) || c < 0 || c > 64) return -1;
        int t = 0;
        for (int i = 0; i < c; i++) t += units.get(u).sum[i];
        return t;
    }

    int leader(int u, int i, int what) {
        if (!has(u) || what < 0 || what > 1) return -1;
        List<Integer> l = leaders(units.get(u).sum);
        if (i < 0 || i >= l.size()) return -1;
        return what == 0 ? l.get(i) : units.get(u).sum[l.get(i)];
    }

    int median(int u) {
        if (!has(u) || all(units.get(u).sum) == 0) return -1;
        return ranked(u, (int) ((all(units.get(u).sum) - 1) / 2));
    }

    long heavy(int u, int p) {
        if (!has(u) || p < 0 || p > 100) return 0;
        int[] row = units.get(u).sum;
        long bits = 0;
        for (int c = 0; c < 64; c++) if (row[c] * 100L > all(row) * p) bits |= 1L << c;
        return bits;
    }

    long squares(int u) {
        if (!has(u)) return -1;
        long t = 0;
        for (int n : units.get(u).sum) t += (long) n * n;
        return t;
    }

    int seats(int u, int n, int c) {
        if (!has(u) || n < 0 || n > 200 || !category(c)) return -1;
        int[] row = units.get(u).sum;
        int[] got = new int[64];
        if (all(row) == 0) return 0;
        for (int i = 0; i < n; i++) {
            int best = 0;
            for (int k = 1; k < 64; k++) {
                if ((long) row[k] * (got[best] + 1) > (long) row[best] * (got[k] + 1)) best = k;
            }
            got[best]++;
        }
        return got[c];
    }

    int percent(int u, int c) {
        if (!has(u) || !category(c)) return -1;
        int[] row = units.get(u).sum;
        long all = all(row);
        if (all == 0) return 0;
        int[] share = new int[64];
        List<Integer> order = new ArrayList<>();
        int lacking = 100;
        for (int k = 0; k < 64; k++) {
            share[k] = (int) (100L * row[k] / all);
            lacking -= share[k];
            order.add(k);
        }
        order.sort((a, b) -> Long.compare(100L * row[b] % all, 100L * row[a] % all));
        for (int i = 0; i < lacking; i++) share[order.get(i)]++;
        return share[c];
    }

    int quantile(int u, int p) {
        if (!has(u) || p < 1 || p > 100 || all(units.get(u).sum) == 0) return -1;
        long t = 0;
        int c = -1;
        do {
            t += units.get(u).sum[++c];
        } while (t * 100 < all(units.get(u).sum) * p);
        return c;
    }

    int few(int u, int p) {
        if (!has(u) || p < 1 || p > 100 || all(units.get(u).sum) == 0) return -1;
        long t = 0;
        int n = 0;
        for (int c : leaders(units.get(u).sum)) {
            t += units.get(u).sum[c];
            n++;
            if (t * 100 >= all(units.get(u).sum) * p) return n;
        }
        throw new IllegalStateException();
    }

    int run(int u, int i, int what) {
        if (!has(u)) return -1;
        int[] row = units.get(u).sum;
        List<int[]> runs = new ArrayList<>();
        for (int c = 0; c < 64; c++) {
            if (row[c] == 0) continue;
            if (c == 0 || row[c - 1] == 0) runs.add(new int[] {c, c, 0});
            int[] last = runs.get(runs.size() - 1);
            last[1] = c;
            last[2] += row[c];
        }
        if (i == -1) return runs.size();
        if (what < 0 || what > 2 || i < -3 || i >= runs.size() || runs.isEmpty()) return -1;
        if (i >= 0) return runs.get(i)[what];
        int[] best = runs.get(0);
        for (int[] r : runs) {
            if (i == -2 ? r[1] - r[0] > best[1] - best[0] : r[2] > best[2]) best = r;
        }
        return best[what];
    }

    int report(int u) {
        chosen = "";
        if (!has(u)) return -1;
        int[] row = units.get(u).sum;
        List<Integer> l = leaders(row);
        chosen = u + ":";
        for (int i = 0; i < Math.min(5, l.size()); i++) chosen += " " + l.get(i) + "x" + row[l.get(i)];
        if (l.size() > 5) chosen += " +" + (l.size() - 5);
        return chosen.length();
    }

    int sign(int i) {
        return i >= 0 && i < chosen.length() ? chosen.charAt(i) : -1;
    }

    int drawn(int u, int n, int c) {
        if (!has(u) || n < 1 || n > 50 || !category(c)) return -1;
        int[] row = units.get(u).sum.clone();
        int hits = 0;
        for (int i = 0; i < n && all(row) > 0; i++) {
            state = state * 1664525 + 1013904223;
            long rank = ((state & 0xffffffffL) >> 8) % all(row);
            int k = 0;
            while (rank >= row[k]) rank -= row[k++];
            row[k]--;
            if (k == c) hits++;
        }
        return hits;
    }

    // ---- versions

    int versions(int u) {
        return has(u) ? units.get(u).versions.size() : -1;
    }

    int was(int u, int v, int c) {
        return has(u) && v >= 0 && v < versions(u) && category(c) ? units.get(u).versions.get(v)[c] : -1;
    }

    int grew(int u, int v, int what) {
        if (!has(u) || v < 1 || v >= versions(u) || what < 0 || what > 4) return -100000;
        int most = 0;
        int fell = 0;
        int other = 0;
        int[] g = new int[64];
        for (int c = 0; c < 64; c++) g[c] = was(u, 0, c) - was(u, v, c);
        for (int c = 0; c < 64; c++) {
            if (g[c] > g[most]) most = c;
            if (g[c] < g[fell]) fell = c;
            if (g[c] != 0) other++;
        }
        return new int[] {most, g[most], fell, -g[fell], other}[what];
    }

    // ---- several sums

    int twin(int u) {
        if (!has(u)) return -1;
        int best = -1;
        for (int v : units.keySet()) {
            if (v != u && (best == -1 || unlike(u, v) < unlike(u, best))) best = v;
        }
        return best;
    }

    int halves(int u, int what) {
        if (!has(u) || belows(u).size() > 12 || what < 0 || what > 1) return -1;
        List<Integer> b = belows(u);
        long best = Long.MAX_VALUE;
        int bestSet = 0;
        for (int s = 0; s < 1 << b.size(); s++) {
            long in = 0;
            long out = 0;
            int set = 0;
            for (int i = 0; i < b.size(); i++) {
                if ((s & 1 << i) != 0) {
                    in += all(units.get(b.get(i)).sum);
                    set += 1 << b.get(i);
                } else {
                    out += all(units.get(b.get(i)).sum);
                }
            }
            if (Math.abs(in - out) < best || (Math.abs(in - out) == best && set < bestSet)) {
                best = Math.abs(in - out);
                bestSet = set;
            }
        }
        return what == 0 ? bestSet : (int) best;
    }

    int unlike(int u, int v) {
        return has(u) && has(v) ? unlikeness(units.get(u).sum, units.get(v).sum) : -1;
    }

    int shared(int u, int v, int what) {
        if (!has(u) || !has(v) || what < 0 || what > 3) return -1;
        int[] a = units.get(u).sum;
        int[] b = units.get(v).sum;
        int both = 0;
        int either = 0;
        int lesser = 0;
        for (int c = 0; c < 64; c++) {
            if (a[c] > 0 && b[c] > 0) both++;
            if (a[c] > 0 || b[c] > 0) either++;
            lesser += Math.min(a[c], b[c]);
        }
        return new int[] {both, either, mergeCost(a, b), lesser}[what];
    }

    int leads(int c) {
        if (!category(c)) return -1;
        int set = 0;
        for (int u : units.keySet()) if (first(units.get(u).sum) == c) set += 1 << u;
        return set;
    }

    int where(int c, int k) {
        if (!category(c) || k < 1 || k > 999999) return -1;
        int best = -1;
        for (int u : units.keySet()) {
            if (units.get(u).sum[c] >= k && (best == -1 || depth(u) > depth(best))) best = u;
        }
        return best;
    }

    // ---- in thought

    int cost(int u) {
        if (!has(u)) return -1;
        TreeMap<Integer, Unit> before = copyOf(units);
        int cost = rollUp(u, new int[2]);
        units = before;
        return cost;
    }

    int would(int u, int below, int what) {
        if (!canMove(u, below) || what < 0 || what > 3) return -1;
        TreeMap<Integer, Unit> before = copyOf(units);
        moved(u, below);
        int stale = look(1);
        int cost = rollUp(0, new int[2]);
        int leader = first(units.get(below).sum);
        int others = 0;
        for (int v : units.keySet()) {
            if (first(units.get(v).sum) != first(before.get(v).sum)) others++;
        }
        units = before;
        return new int[] {cost, leader, others, stale}[what];
    }

    int home(int u) {
        if (u == 0 || !has(u)) return -1;
        int best = -1;
        int least = 0;
        int[] mine = branchSum(u);
        for (int v : units.keySet()) {
            if (units.get(u).above != v && !canMove(u, v)) continue;
            int[] rest = new int[64];
            for (int w : branch(v)) if (!branch(u).contains(w)) rest = plus(rest, units.get(w).own);
            int apart = unlikeness(rest, mine);
            if (best == -1 || apart < least) {
                best = v;
                least = apart;
            }
        }
        return best;
    }

    // ---- all of it

    int count(int what) {
        return what < 0 || what > 10 ? -1 : counts[what];
    }

    boolean image(boolean taken) {
        if (taken) {
            imageUnits = copyOf(units);
            imageLimits = new ArrayList<>(limits);
            imageState = state;
            imageCounts = counts.clone();
            return true;
        }
        if (imageUnits == null) return false;
        units = copyOf(imageUnits);
        limits = new ArrayList<>(imageLimits);
        state = imageState;
        counts = imageCounts.clone();
        acts.clear();
        return true;
    }

    int look(int what) {
        int found = 0;
        Set<Integer> used = new TreeSet<>();
        switch (what) {
            case 0:
                for (int u : units.keySet()) found += 1 << u;
                return found;
            case 1:
                for (int u : units.keySet()) if (units.get(u).stale) found += 1 << u;
                return found;
            case 2:
                for (int u : units.keySet()) if (unit(u, 5) == 1) found += 1 << u;
                return found;
            case 3: return units.size();
            case 4:
                for (int u : units.keySet()) found = Math.max(found, depth(u));
                return found;
            case 5: return acts.size();
            case 6: return tape.size();
            case 7:
                for (int u : units.keySet()) found += unit(u, 6);
                return found;
            case 8:
                for (int u : units.keySet()) found += unit(u, 9);
                return found;
            case 9:
                for (Unit u : units.values()) used.addAll(leaders(u.own));
                return 64 - used.size();
            case 10: return limits.size();
            case 11: return broken(-1, 0);
            case 12:
                if (imageUnits == null) return 0;
                for (int u = 0; u < 24; u++) {
                    int a = units.containsKey(u) ? units.get(u).above : -7;
                    int b = imageUnits.containsKey(u) ? imageUnits.get(u).above : -7;
                    if (a != b) found += 1 << u;
                }
                return found;
            default: return -1;
        }
    }
}

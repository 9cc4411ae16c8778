import java.util.ArrayList;
import java.util.List;

/** Random runs of 512 calls, each answer compared with that of the Model; the same runs each time. */
public final class RandomRunsTest {
    private static long seed;
    private static BranchSums x;
    private static Model m;
    private static String call;
    private static int calls;
    /** In some runs there are stairs down to the twelfth depth, and the deepest UNIT is asked for often. */
    private static boolean tall;

    /** A text fed, an act and all that is asked behind it. */
    private static final int MOST_AT_ONCE = 72;

    private static int pick(int n) {
        seed = seed * 6364136223846793005L + 1442695040888963407L;
        return (int) Long.remainderUnsigned(seed >>> 33, n);
    }

    private static boolean often(int percent) {
        return pick(100) < percent;
    }

    private static final int[] WILD = {
        Integer.MIN_VALUE, -100000, -10000, -9999, -4, -3, -2, -1, 0, 1, 2, 11, 12, 13, 23, 24, 32, 50, 51,
        63, 64, 65, 100, 101, 200, 201, 400, 9999, 10000, 999999, 1000000, Integer.MAX_VALUE
    };

    private static int wildOr(int n) {
        return often(2) ? WILD[pick(WILD.length)] : n;
    }

    private static int deepest() {
        int deepest = 0;
        for (int u : m.units.keySet()) {
            if (m.depth(u) > m.depth(deepest)) deepest = u;
        }
        return deepest;
    }

    private static int unit() {
        if (tall && often(25)) return deepest();
        if (often(85)) {
            List<Integer> there = new ArrayList<>(m.units.keySet());
            return wildOr(there.get(pick(there.size())));
        }
        return wildOr(pick(24));
    }

    private static int category() {
        return wildOr(often(70) ? pick(10) * 7 % 64 : pick(64));
    }

    private static int what(int n) {
        return wildOr(pick(n));
    }

    private static void due(long got, long want, int run, int at) {
        calls++;
        if (got == want) return;
        System.out.println("run " + run + ", call " + at + ", " + call + " answered " + got + ", due is " + want);
        System.exit(1);
    }

    private static long bit(boolean b) {
        return b ? 1 : 0;
    }

    private static String args(int... n) {
        StringBuilder s = new StringBuilder("(");
        for (int i : n) s.append(s.length() > 1 ? ", " : "").append(i);
        return s.append(")").toString();
    }

    private static String randomText() {
        StringBuilder s = new StringBuilder();
        List<Integer> free = new ArrayList<>();
        for (int u = 1; u < 24; u++) free.add(u);
        List<Integer> there = new ArrayList<>();
        there.add(0);
        s.append("0");
        if (tall) randomBelow(s, free, there, 0, 11 + pick(4), 98);
        else randomBelow(s, free, there, 0, pick(24), pick(100));
        for (int k = pick(8); k > 0; k--) {
            s.append(blanks()).append(";").append(blanks()).append(there.get(pick(there.size()))).append(":");
            for (int i = pick(3); i >= 0; i--) {
                s.append(blanks()).append(pick(64)).append("x").append(blanks()).append(often(3) ? pick(12000) : 1 + pick(300));
                if (i > 0) s.append(blanks()).append(",");
            }
        }
        if (often(20)) s.append(";");
        for (int i = often(40) ? 1 + pick(2) : 0; i > 0; i--) spoil(s);
        return s.append(blanks()).toString();
    }

    private static void spoil(StringBuilder s) {
        String signs = "0123456789 (),;:x!\u00ff";
        int at = pick(s.length());
        char c = signs.charAt(pick(signs.length()));
        int how = pick(3);
        if (how == 0 && s.length() > 1) s.deleteCharAt(at);
        else if (how == 1) s.setCharAt(at, c);
        else s.insert(at, c);
    }

    private static String blanks() {
        return often(10) ? " ".repeat(1 + pick(3)) : "";
    }

    private static void randomBelow(StringBuilder s, List<Integer> free, List<Integer> there, int depth, int most, int deep) {
        if (free.isEmpty() || there.size() >= most || depth > 13) return;
        s.append(blanks()).append("(");
        int many = often(deep) ? 1 : 1 + pick(5);
        for (int i = 0; i < many && !free.isEmpty(); i++) {
            int u = free.remove(pick(free.size()));
            if (often(2)) u = pick(26);
            else there.add(u);
            s.append(i > 0 && s.charAt(s.length() - 1) != ')' ? " " : blanks()).append(often(5) ? "0" : "").append(u);
            if (often(Math.max(deep, 40))) randomBelow(s, free, there, depth + 1, most, deep);
        }
        s.append(")");
    }

    /** Feeds a whole text by twenties, with blanks behind it or cut to its length. */
    private static void feedText(int run, int at, String text) {
        int start = m.tape.size();
        for (int i = 0; i < text.length(); i += 20) {
            int[] n = new int[5];
            for (int k = 0; k < 20; k++) {
                int c = i + k < text.length() ? text.charAt(i + k) : ' ';
                n[k / 4] |= c << 8 * (3 - k % 4);
            }
            call = "feed of " + text;
            due(x.feed(n[0], n[1], n[2], n[3], n[4]), m.feed(n), run, at);
        }
        if (often(50)) due(bit(x.end(start + text.length())), bit(m.end(start + text.length())), run, at);
    }

    private static void tapeCall(int run, int at) {
        if (often(60)) feedText(run, at, randomText());
        if (often(10)) {
            int n = wildOr(pick(60));
            call = "end" + args(n);
            due(bit(x.end(n)), bit(m.end(n)), run, at);
        }
        readText(run, at);
    }

    private static void readText(int run, int at) {
        call = "text()";
        due(x.text(), m.text(), run, at);
        due(x.fault(0), m.fault(0), run, at);
        due(x.fault(1), m.fault(1), run, at);
    }

    private static void act(int run, int at, int kind) {
        int u = unit();
        int v = unit();
        int c = category();
        int d = category();
        if (kind < 30) {
            int n = wildOr(often(5) ? pick(19999) - 9999 : often(30) ? -1 - pick(20) : 1 + pick(60));
            call = "add" + args(u, c, n);
            due(x.add(u, c, n), m.add(u, c, n), run, at);
        } else if (kind < 48) {
            int w = often(80) ? pick(24) : u;
            if (tall && often(60)) v = deepest();
            call = "comes" + args(w, v);
            due(bit(x.comes(w, v)), bit(m.comes(w, v)), run, at);
        } else if (kind < 53) {
            call = "goes" + args(u);
            due(x.goes(u), m.goes(u), run, at);
        } else if (kind < 64) {
            call = "move" + args(u, v);
            due(x.move(u, v), m.move(u, v), run, at);
        } else if (kind < 72) {
            int low = often(80) ? Math.min(c, d) : c;
            int high = often(80) ? Math.max(c, d) : d;
            call = "give" + args(u, v, low, high);
            due(x.give(u, v, low, high), m.give(u, v, low, high), run, at);
        } else if (kind < 86) {
            call = "roll" + args(u);
            due(x.roll(u), m.roll(u), run, at);
        } else if (kind < 90) {
            call = "recode" + args(c, d);
            due(x.recode(c, d), m.recode(c, d), run, at);
        } else if (kind < 92) {
            tapeCall(run, at);
        } else if (kind < 99) {
            call = "undo()";
            due(x.undo(), m.undo(), run, at);
        } else {
            boolean taken = often(50);
            call = "image(" + taken + ")";
            due(bit(x.image(taken)), bit(m.image(taken)), run, at);
        }
    }

    private static void tell(int run, int at) {
        int u = unit();
        int c = category();
        int d = category();
        int n;
        switch (pick(4)) {
            case 0:
            case 1:
                n = wildOr(often(30) ? -1 : pick(200));
                call = "limit" + args(u, Math.min(c, d), Math.max(c, d), n);
                due(x.limit(u, Math.min(c, d), Math.max(c, d), n), m.limit(u, Math.min(c, d), Math.max(c, d), n), run, at);
                return;
            case 2:
                n = pick(1 << 30) * 7;
                call = "state" + args(n);
                due(x.state(n), m.state(n), run, at);
                return;
            default:
                n = wildOr(1 + pick(50));
                call = "drawn" + args(u, n, c);
                due(x.drawn(u, n, c), m.drawn(u, n, c), run, at);
        }
    }

    private static void askTree(int run, int at) {
        int u = unit();
        int v = unit();
        int c = category();
        int i = wildOr(pick(8));
        int w = what(13);
        call = "unit, below, above, both, of, chain, hops, limits" + args(u, v, c, i, w);
        due(x.unit(u, w), m.unit(u, w), run, at);
        due(x.below(u, i), m.below(u, i), run, at);
        due(x.above(u, i), m.above(u, i), run, at);
        due(x.both(u, v), m.both(u, v), run, at);
        due(x.of(u, c, w % 4), m.of(u, c, w % 4), run, at);
        int k = often(30) ? -1 : c;
        due(x.chain(u, v, k), m.chain(u, v, k), run, at);
        due(x.hops(u, v), m.hops(u, v), run, at);
        due(x.broken(i - 1, w % 3), m.broken(i - 1, w % 3), run, at);
        due(x.count(w), m.count(w), run, at);
        due(x.look(w), m.look(w), run, at);
        due(x.sign(i * 3), m.sign(i * 3), run, at);
    }

    private static void askSum(int run, int at) {
        int u = unit();
        int c = category();
        int i = wildOr(pick(9) - 3);
        int p = wildOr(pick(103) - 1);
        int n = wildOr(pick(203) - 1);
        int w = what(6);
        call = "ranked, less, leader, median, heavy, squares, seats, percent, quantile, few, run" + args(u, c, i, p, n, w);
        due(x.ranked(u, i * 5), m.ranked(u, i * 5), run, at);
        due(x.less(u, c), m.less(u, c), run, at);
        due(x.leader(u, i, w % 3), m.leader(u, i, w % 3), run, at);
        due(x.median(u), m.median(u), run, at);
        due(x.heavy(u, p), m.heavy(u, p), run, at);
        due(x.squares(u), m.squares(u), run, at);
        due(x.seats(u, n, c), m.seats(u, n, c), run, at);
        due(x.percent(u, c), m.percent(u, c), run, at);
        due(x.quantile(u, p), m.quantile(u, p), run, at);
        due(x.few(u, p), m.few(u, p), run, at);
        due(x.run(u, i, w), m.run(u, i, w), run, at);
        call = "versions, was, grew" + args(u, i, c, w);
        due(x.versions(u), m.versions(u), run, at);
        due(x.was(u, i, c), m.was(u, i, c), run, at);
        due(x.grew(u, i, w), m.grew(u, i, w), run, at);
        if (often(30)) due(x.report(u), m.report(u), run, at);
    }

    private static void askMany(int run, int at) {
        int u = unit();
        int v = unit();
        int c = category();
        int k = wildOr(1 + pick(100));
        int w = what(5);
        call = "twin, halves, unlike, shared, leads, where, cost, would, home" + args(u, v, c, k, w);
        due(x.twin(u), m.twin(u), run, at);
        if (m.has(u) && m.belows(u).size() < 9 || often(10)) due(x.halves(u, w % 3), m.halves(u, w % 3), run, at);
        due(x.unlike(u, v), m.unlike(u, v), run, at);
        due(x.shared(u, v, w), m.shared(u, v, w), run, at);
        due(x.leads(c), m.leads(c), run, at);
        due(x.where(c, k), m.where(c, k), run, at);
        due(x.cost(u), m.cost(u), run, at);
        due(x.would(u, v, w), m.would(u, v, w), run, at);
        due(x.home(u), m.home(u), run, at);
    }

    public static void main(String[] args) {
        int runs = args.length > 0 ? Integer.parseInt(args[0]) : 1000;
        seed = args.length > 1 ? Long.parseLong(args[1]) : 20261118L;
        for (int run = 1; run <= runs; run++) {
            x = new BranchSums();
            m = new Model();
            int calm = pick(3);
            tall = pick(4) == 0;
            calls = 0;
            if (tall) {
                feedText(run, 0, randomText());
                readText(run, 0);
            }
            for (int at = 1; calls <= 512 - MOST_AT_ONCE; at++) {
                int kind = pick(100);
                // Some runs have no texts or images, so that what they build lasts.
                if (calm > 0 && (kind == 90 || kind == 91 || kind == 99)) kind = pick(86);
                // In tall ones there is less that takes the deepest away.
                if (tall && kind >= 48 && kind < 64 && often(70)) kind = pick(48);
                act(run, at, kind);
                if (often(20)) tell(run, at);
                if (often(15)) askTree(run, at);
                if (often(12)) askSum(run, at);
                if (often(8)) askMany(run, at);
            }
        }
        System.out.println("all answers of " + runs + " random runs are as due");
    }
}

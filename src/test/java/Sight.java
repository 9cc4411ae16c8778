import java.util.ArrayList;
import java.util.Arrays;
import java.util.IdentityHashMap;
import java.util.List;
import java.util.Map;
import java.util.TreeSet;

/**
 * All that calls can see of an object, to show that a call leaves all else as it was. An object has 512
 * calls, so each part of all is looked at on an object of its own that is made in the same way.
 */
final class Sight {
    interface Maker {
        BranchSums make();
    }

    interface Call {
        long on(BranchSums x);
    }

    interface CallOf {
        long on(BranchSums x, int v);
    }

    private interface Part {
        void look(BranchSums x, List<Long> seen);
    }

    static final int MIN = Integer.MIN_VALUE;
    static final int MAX = Integer.MAX_VALUE;

    /** Refused calls on one object: with what made it and what looks at it that stays below 512. */
    private static final int BATCH = 60;
    private static final int MOST_SEEN = 360;
    private static final int[] CATEGORIES = {0, 1, 5, 6, 9, 30, 31, 32, 61, 62, 63};
    private static final int[] UNITS = {0, 1, 2, 3, 4, 5, 6, 23};
    private static final int[][] LIMITS = {{0, 0, 63}, {7, 0, 0}, {23, 62, 63}, {1, 0, 63}, {2, 5, 9}};

    private static final Map<Maker, List<List<Long>>> KNOWN = new IdentityHashMap<>();
    private static final Part[] OF_ORG = {
        Sight::units, Sight::own, Sight::sums, Sight::versions, Sight::costs, Sight::undone, Sight::undoneUnits
    };
    private static final Part[] OF_REST = {
        Sight::looks, Sight::counts, Sight::told, Sight::limits, Sight::goneBack, Sight::goneBackUnits, Sight::read
    };

    private Sight() {
    }

    // ---- What is looked at

    private static boolean has(BranchSums x, int unit) {
        return x.unit(unit, 1) != BranchSums.NONE;
    }

    private static void looks(BranchSums x, List<Long> seen) {
        for (int w = 0; w <= 12; w++) seen.add((long) x.look(w));
    }

    private static void counts(BranchSums x, List<Long> seen) {
        for (int w = 0; w <= 10; w++) seen.add((long) x.count(w));
    }

    private static void units(BranchSums x, List<Long> seen) {
        for (int u = 0; u < 24; u++) {
            for (int w = 0; w < 12; w++) seen.add((long) x.unit(u, w));
        }
    }

    private static void rows(BranchSums x, int what, List<Long> seen) {
        for (int u = 0; u < 24; u++) {
            if (!has(x, u)) continue;
            for (int c : CATEGORIES) seen.add((long) x.of(u, c, what));
        }
    }

    private static void own(BranchSums x, List<Long> seen) {
        rows(x, 0, seen);
    }

    private static void sums(BranchSums x, List<Long> seen) {
        rows(x, 1, seen);
        for (int u : UNITS) seen.add(x.squares(u));
    }

    private static void versions(BranchSums x, List<Long> seen) {
        for (int u = 0; u < 24; u++) seen.add((long) x.versions(u));
        for (int u : UNITS) {
            for (int v = 0; v < 8; v++) {
                for (int c : new int[] {0, 5, 32, 63}) seen.add((long) x.was(u, v, c));
            }
            seen.add((long) x.grew(u, 1, 4));
        }
    }

    private static void costs(BranchSums x, List<Long> seen) {
        for (int u = 0; u < 24; u++) seen.add((long) x.cost(u));
        seen.add((long) x.roll(0));
        for (int u = 0; u < 24; u++) seen.add((long) x.unit(u, 8));
    }

    private static void undone(BranchSums x, List<Long> seen) {
        for (int i = 0; i < 11; i++) {
            seen.add((long) x.undo());
            for (int w : new int[] {0, 1, 2, 4, 7, 8, 9}) seen.add((long) x.look(w));
        }
    }

    private static void undoneUnits(BranchSums x, List<Long> seen) {
        for (int i = 0; i < 11; i++) {
            seen.add((long) x.undo());
            for (int u : UNITS) {
                for (int w : new int[] {0, 6, 8}) seen.add((long) x.unit(u, w));
            }
        }
    }

    private static void told(BranchSums x, List<Long> seen) {
        seen.add((long) x.fault(0));
        seen.add((long) x.fault(1));
        for (int i = -1; i < 60; i++) seen.add((long) x.sign(i));
        seen.add((long) x.state(0));
        seen.add((long) x.state(0));
    }

    private static void limits(BranchSums x, List<Long> seen) {
        for (int i = -1; i < 13; i++) {
            seen.add((long) x.broken(i, 0));
            seen.add((long) x.broken(i, 1));
        }
        for (int[] l : LIMITS) {
            seen.add((long) x.limit(l[0], l[1], l[2], BranchSums.NONE));
            seen.add((long) x.broken(BranchSums.NONE, 0));
            seen.add((long) x.broken(0, 1));
        }
    }

    private static void goneBack(BranchSums x, List<Long> seen) {
        seen.add(x.image(false) ? 1L : 0L);
        looks(x, seen);
        counts(x, seen);
        told(x, seen);
        limits(x, seen);
    }

    private static void goneBackUnits(BranchSums x, List<Long> seen) {
        seen.add(x.image(false) ? 1L : 0L);
        for (int u : UNITS) {
            for (int w : new int[] {0, 4, 6, 8, 10}) seen.add((long) x.unit(u, w));
            for (int c : CATEGORIES) seen.add((long) x.of(u, c, 0));
            for (int c : CATEGORIES) seen.add((long) x.of(u, c, 1));
            seen.add((long) x.versions(u));
        }
    }

    private static void read(BranchSums x, List<Long> seen) {
        seen.add((long) x.look(6));
        seen.add((long) x.text());
        seen.add((long) x.fault(0));
        seen.add((long) x.fault(1));
        looks(x, seen);
        for (int u = 0; u < 24; u++) {
            seen.add((long) x.unit(u, 0));
            seen.add((long) x.unit(u, 6));
        }
        own(x, seen);
    }

    private static List<Long> seen(BranchSums x, Part part) {
        List<Long> seen = new ArrayList<>();
        part.look(x, seen);
        Check.due("an object has 512 calls, looked at by " + seen.size(), seen.size() <= MOST_SEEN, true);
        return seen;
    }

    private static List<List<Long>> allSeen(Maker maker, Part[] parts) {
        List<List<Long>> all = new ArrayList<>();
        for (Part part : parts) all.add(seen(maker.make(), part));
        return all;
    }

    private static void due(String call, List<Long> got, List<Long> want) {
        if (!got.equals(want)) System.out.println(call + ": seen is " + got + ", due is " + want);
        Check.due(call + ": all else is as due", got.equals(want), true);
    }

    // ---- What the tests say

    private static Part[] all() {
        Part[] all = Arrays.copyOf(OF_ORG, OF_ORG.length + OF_REST.length);
        System.arraycopy(OF_REST, 0, all, OF_ORG.length, OF_REST.length);
        return all;
    }

    /** For each of the values the call gives the one answer, and all stays as it was. */
    static void stays(String call, Maker maker, long answer, int[] values, CallOf c) {
        Part[] parts = all();
        List<List<Long>> want = KNOWN.computeIfAbsent(maker, m -> allSeen(m, all()));
        for (int from = 0; from < values.length; from += BATCH) {
            int[] batch = Arrays.copyOfRange(values, from, Math.min(from + BATCH, values.length));
            for (int p = 0; p < parts.length; p++) {
                BranchSums x = maker.make();
                for (int v : batch) Check.due(call + " with " + v, c.on(x, v), answer);
                due(call + ", part " + p, seen(x, parts[p]), want.get(p));
            }
        }
    }

    static void stays(String call, Maker maker, long answer, Call c) {
        stays(call, maker, answer, new int[] {0}, (x, v) -> c.on(x));
    }

    /** Both are the same in all that can be seen. */
    static void same(String what, Maker got, Maker want) {
        same(what, got, want, all());
    }

    /** Both are the same in what undo takes back. */
    static void sameOrg(String what, Maker got, Maker want) {
        same(what, got, want, OF_ORG);
    }

    private static void same(String what, Maker got, Maker want, Part[] parts) {
        for (int p = 0; p < parts.length; p++) {
            due(what + ", part " + p, seen(got.make(), parts[p]), seen(want.make(), parts[p]));
        }
    }

    // ---- What it is tried on

    /** Of the whole range of an int those beside a span and those far from it. */
    static int[] outside(int low, int high) {
        TreeSet<Integer> found = new TreeSet<>();
        for (int k = 0; k < 32; k++) {
            int bit = 1 << k;
            for (int n : new int[] {bit, -bit, ~bit, bit - 1, low - bit, high + bit, low + bit, high - bit}) found.add(n);
        }
        found.removeIf(n -> n >= low && n <= high);
        return found.stream().mapToInt(n -> n).toArray();
    }

    static int[] with(int[] values, int... others) {
        int[] all = Arrays.copyOf(values, values.length + others.length);
        System.arraycopy(others, 0, all, values.length, others.length);
        return all;
    }

    static int[] without(int[] values, int... others) {
        return Arrays.stream(values).filter(v -> Arrays.stream(others).noneMatch(o -> o == v)).toArray();
    }

    static final Maker SCENE = Sight::scene;

    /** UNITS that are not there in SCENE. */
    static final int[] ABSENT = {7, 8, 9, 10, 11, 12, 13, 14, 15, 16, 17, 18, 19, 20, 21, 22};

    /**
     * Units 0 to 6 and 23, 3, 5 and 23 of them not stale; ten acts to undo, limits (three of them broken),
     * STATE, an image that is other than all is, a tape that is a text, a fault, a report.
     */
    private static BranchSums scene() {
        BranchSums x = new BranchSums();
        Check.read(x, "0(1(3(6))2(4)23);0:5x9999,63x1;1:0x3,9x4;3:5x2,31x7;6:32x8;4:5x1;23:62x5,63x9998");
        x.limit(0, 0, 63, 100);
        x.limit(7, 0, 0, 0);
        x.limit(23, 62, 63, 9);
        x.limit(1, 0, 63, 999999);
        x.state(12345);
        x.roll(0);
        x.image(true);
        x.add(3, 5, 10);
        x.roll(0);
        x.comes(5, 2);
        x.add(5, 9, 6);
        x.move(6, 4);
        x.give(1, 23, 0, 5);
        x.roll(0);
        x.recode(31, 30);
        x.roll(1);
        x.undo();
        x.roll(3);
        x.add(6, 32, 1);
        x.limit(2, 5, 9, 1);
        x.report(0);
        Check.read(x, "0(");
        Check.tape(x, "0(7 8(9));7:1x11;9:2x22");
        return x;
    }
}

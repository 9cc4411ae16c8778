import java.util.ArrayList;
import java.util.List;

/** Promises 33, 36 to 39 and 43 to 46 at the bounds that they name: VERSIONS, and several SUMS. */
public final class EdgesOfManyTest {
    private static final int NONE = BranchSums.NONE;
    private static final int NO_GROWTH = NONE - 99999;

    private static void due(String call, long got, long want) {
        Check.due(call, got, want);
    }

    // ---- 33: "another UNIT whose SUM is least UNLIKE its own, of several the least. NONE if there is none, or none such"

    private static void twins(String text) {
        for (int u = -1; u <= 24; u++) {
            BranchSums x = Check.rolled(text);
            int best = NONE;
            for (int v = 0; v < 24; v++) {
                if (v == u || x.unit(u, 1) == NONE || x.unit(v, 1) == NONE) continue;
                if (best == NONE || x.unlike(u, v) < x.unlike(u, best)) best = v;
            }
            due("33: twin(" + u + ") of " + text, x.twin(u), best);
        }
    }

    private static void twinsOfEach() {
        twins("0");
        twins("0(23)");
        twins("0(1 2 3 23)");
        twins("0(1 2 3 23);0:5x1;1:5x1;2:0x9,63x9;3:0x9,63x8;23:0x8,63x9");
        twins("0(9(8)7(6));9:0x9999;8:63x9999;7:63x1;6:0x1");
        due("33: the head alone", new BranchSums().twin(0), NONE);
        BranchSums x = new BranchSums();
        x.comes(23, 0);
        due("33: the head's", x.twin(0), 23);
        due("33: the other's", x.twin(23), 0);
        x.goes(23);
        due("33: alone again", x.twin(0), NONE);
        due("33: none such", x.twin(23), NONE);
    }

    // ---- 36, 37: "How many VERSIONS"; "VERSION v (0: the latest)"; 38: "GREW by v (1 ..)"

    private static BranchSums grown(int rollings) {
        BranchSums x = new BranchSums();
        x.comes(1, 0);
        for (int i = 1; i <= rollings; i++) {
            x.add(0, 0, i);
            x.add(0, 63, i % 2 == 1 ? 5 : -5);
            x.roll(0);
        }
        return x;
    }

    /** Each UNIT has VERSIONS of its own: UNIT u has one entry of CATEGORY u, then u + 2 of 63 - u more. */
    private static void versionsOfAll() {
        BranchSums x = new BranchSums();
        for (int u = 1; u < 24; u++) x.comes(u, 0);
        for (int u = 1; u < 24; u++) {
            x.add(u, u, 1);
            x.roll(u);
            x.add(u, u, -1);
            x.add(u, 63 - u, u + 2);
            x.roll(u);
        }
        due("36: of the head", x.versions(0), 0);
        for (int u = 1; u < 24; u++) {
            String call = " of " + u;
            due("36: versions" + call, x.versions(u), 2);
            due("37: the latest" + call, x.was(u, 0, 63 - u) * 10 + x.was(u, 0, u), 10 * u + 20);
            due("37: the one ahead" + call, x.was(u, 1, 63 - u) * 10 + x.was(u, 1, u), 1);
            int[] want = {63 - u, u + 2, u, 1, 2};
            for (int w = 0; w < 5; w++) due("38: grew" + call + ", what " + w, x.grew(u, 1, w), want[w]);
        }
    }

    /** "UNDONE: ... all is as it was", "none by (g)", THE IMAGE: so it is with the VERSIONS of each UNIT. */
    private static void versionsThatGo() {
        for (int u = 0; u < 24; u++) {
            BranchSums x = new BranchSums();
            if (u > 0) x.comes(u, 0);
            x.add(u, 63, 1);
            x.roll(u);
            due("36: one of " + u, x.versions(u), 1);
            x.undo();
            due("36: undone", x.versions(u), 0);
            due("37: none of them", x.was(u, 0, 63), NONE);
            x.roll(u);
            x.image(true);
            for (int i = 2; i <= 9; i++) {
                x.add(u, 63, 1);
                x.roll(u);
            }
            due("37: the latest", x.was(u, 0, 63) * 10 + x.was(u, 7, 63), 92);
            x.undo();
            due("37: that ahead of it", x.was(u, 0, 63) * 10 + x.was(u, 7, 63), 81);
            Check.read(x, u == 0 ? "0" : "0(" + u + ")");
            due("36: none by a text", x.versions(u), 0);
            x.undo();
            due("36: eight again", x.versions(u), 8);
            x.image(false);
            due("36: one as in the image", x.versions(u), 1);
            due("37: as in the image", x.was(u, 0, 63) * 10 + x.was(u, 1, 63), 10 + NONE);
        }
    }

    private static int triangle(int n) {
        return n * (n + 1) / 2;
    }

    private static void versionsOfEach() {
        for (int n = 0; n <= 10; n++) {
            BranchSums x = grown(n);
            int count = Math.min(n, 8);
            due("36: versions behind " + n, x.versions(0), count);
            due("36: of one that is not rolled up", x.versions(1), 0);
            due("36: none such", x.versions(2) + x.versions(-1) + x.versions(24), 3 * NONE);
            for (int v = 0; v < 10; v++) {
                boolean is = v < count;
                due("37: was(0, " + v + ", 0) behind " + n, x.was(0, v, 0), is ? triangle(n - v) : NONE);
                due("37: was(0, " + v + ", 63)", x.was(0, v, 63), is ? (n - v) % 2 * 5 : NONE);
                due("37: was(0, " + v + ", 1)", x.was(0, v, 1), is ? 0 : NONE);
                due("37: category -1, 64", x.was(0, v, -1) + x.was(0, v, 64), 2 * NONE);
                due("37: without versions", x.was(1, v, 0), NONE);
                due("37: none such", x.was(2, v, 0), NONE);
            }
            due("37: v -1", x.was(0, -1, 0), NONE);
        }
    }

    private static void grewByEach() {
        for (int n = 0; n <= 10; n++) {
            BranchSums x = grown(n);
            for (int v = -1; v < 10; v++) {
                boolean is = v >= 1 && v < Math.min(n, 8);
                int more = triangle(n) - triangle(n - v);
                int less = n % 2 * 5 - (n - v) % 2 * 5;
                String call = "38: grew by " + v + " behind " + n;
                // 63 is 5 more or less with each rolling up, category 0 is n more.
                due(call + ", the most", x.grew(0, v, 0), !is ? NO_GROWTH : less > more ? 63 : 0);
                due(call + ", by how much", x.grew(0, v, 1), is ? Math.max(more, less) : NO_GROWTH);
                due(call + ", fell", x.grew(0, v, 2), !is ? NO_GROWTH : less < 0 ? 63 : 1);
                due(call + ", by how much", x.grew(0, v, 3), !is ? NO_GROWTH : less < 0 ? 5 : 0);
                due(call + ", others", x.grew(0, v, 4), !is ? NO_GROWTH : v % 2 == 1 ? 2 : 1);
                due(call + ", what 5", x.grew(0, v, 5), NO_GROWTH);
                due(call + ", what -1", x.grew(0, v, -1), NO_GROWTH);
                due(call + ", without versions", x.grew(1, v, 0), NO_GROWTH);
                due(call + ", none such", x.grew(2, v, 0), NO_GROWTH);
            }
        }
        due("38: NONE - 99999", NO_GROWTH, -100000);
    }

    /** Rolled up once, then each CATEGORY of 60 to 63 is more or less by a number, and rolled up again. */
    private static BranchSums changed(int... more) {
        BranchSums x = Check.rolled("0;0:60x10,61x10,62x10,63x10");
        for (int c = 60; c < 64; c++) {
            if (more[c - 60] != 0) x.add(0, c, more[c - 60]);
        }
        x.add(0, 0, 1);
        x.add(0, 0, -1);
        x.roll(0);
        return x;
    }

    private static void grew(BranchSums x, int... want) {
        for (int w = 0; w < 5; w++) due("38: grew, what " + w, x.grew(0, 1, w), want[w]);
    }

    private static void growthOfEachKind() {
        grew(changed(0, 0, 0, 0), 0, 0, 0, 0, 0);
        grew(changed(0, 3, 3, 0), 61, 3, 0, 0, 2);
        grew(changed(0, -3, -3, 0), 0, 0, 61, 3, 2);
        grew(changed(1, 2, 3, 4), 63, 4, 0, 0, 4);
        grew(changed(-1, -2, -3, -4), 0, 0, 63, 4, 4);
        grew(changed(-4, 4, -4, 4), 61, 4, 60, 4, 4);
        grew(changed(-10, 0, 0, 9989), 63, 9989, 60, 10, 2);
    }

    // ---- 39: HALVES: "some ... as near as may be to all of the others, of several such choices the least set"; 12 at most

    private static void halves(String text, int unit) {
        BranchSums x = Check.rolled(text);
        int count = x.unit(unit, 2);
        int all = 0;
        for (int i = 0; i < count; i++) all += x.unit(x.below(unit, i), 8);
        int bestSet = 0;
        int best = all;
        // All sets of UNITS by their numbers; those of units that are not right below are left out.
        int below = 0;
        for (int i = 0; i < count; i++) below |= 1 << x.below(unit, i);
        int[] entries = new int[24];
        for (int u = 0; u < 24; u++) entries[u] = x.unit(u, 8);
        for (int set = below & -below; set != 0; set = set - below & below) {
            int some = 0;
            for (int u = 0; u < 24; u++) some += (set >> u & 1) * entries[u];
            int apart = Math.abs(2 * some - all);
            if (apart < best || apart == best && Integer.compareUnsigned(set, bestSet) < 0) {
                best = apart;
                bestSet = set;
            }
        }
        due("39: set of " + text, x.halves(unit, 0), bestSet);
        due("39: how far apart of " + text, x.halves(unit, 1), best);
        due("39: what 2, -1", x.halves(unit, 2) + x.halves(unit, -1), 2 * NONE);
    }

    private static String many(int count, int low, int step) {
        StringBuilder s = new StringBuilder("0(");
        for (int i = 0; i < count; i++) s.append(23 - i).append(" ");
        s.append(")");
        for (int i = 0; i < count; i++) s.append(";").append(23 - i).append(":").append(i).append("x").append(low + i * step % 7);
        return s.toString();
    }

    private static void halvesOfEach() {
        halves("0", 0);
        for (int count = 1; count <= 12; count++) {
            halves(many(count, 1, 0), 0);
            halves(many(count, 5, 3), 0);
            halves(many(count, 1000, 5), 0);
        }
        halves("0(1 2)", 0);
        halves("0(1 23);1:0x9999;23:63x9999", 0);
        halves("0(1(2 3(4))5);0:5x99;1:5x99;2:5x1;4:5x2", 1);
        halves("0(1 2 3);1:5x9;2:5x1;3:5x1", 0);
        halves("0(1 2 3);1:5x1;2:5x1;3:5x9", 0);
        due("39: none below", Check.rolled("0(1);1:5x9").halves(1, 0), 0);
        due("39: none apart", Check.rolled("0(1);1:5x9").halves(1, 1), 0);
        due("39: one below: none of it", Check.rolled("0(1);1:5x9").halves(0, 0), 0);
        due("39: all of it apart", Check.rolled("0(1);1:5x9").halves(0, 1), 9);
    }

    /** What was asked of other SUMS ahead of it tells nothing. */
    private static void halvesBehindOthers() {
        for (int count = 1; count <= 12; count++) {
            String text = many(count, 5, 3);
            BranchSums x = Check.rolled(text);
            BranchSums y = Check.rolled(text + ";0:20x90,21x90,0x70,1x70,2x70,3x70,4x70,5x70,6x70,7x70,8x70,9x70,10x70,11x70,12x70");
            for (int w = 0; w < 2; w++) {
                y.drawn(0, 1, 20);
                due("39: behind drawn, " + count, y.halves(0, w), x.halves(0, w));
                y.seats(0, 200, 20);
                due("39: behind seats, " + count, y.halves(0, w), x.halves(0, w));
                y.home(23);
                due("39: behind home, " + count, y.halves(0, w), x.halves(0, w));
            }
        }
    }

    /** Two right below, 5 and 1 of them: none but these are parts, whatever number another SUM had. */
    private static void halvesOfJustThese() {
        for (int n = 1; n <= 20; n++) {
            BranchSums x = Check.rolled("0(22 23);22:60x5;23:61x1;0:2x" + n + ",3x" + n);
            for (int drawn = 1; drawn <= 8; drawn++) {
                x.drawn(0, drawn, 2);
                due("39: the set behind " + drawn + " drawn of " + n, x.halves(0, 0), 1 << 22);
                x.drawn(0, drawn, 2);
                due("39: how far apart", x.halves(0, 1), 4);
            }
        }
    }

    private static BranchSums wide(int count) {
        BranchSums x = new BranchSums();
        for (int u = 23; u > 23 - count; u--) x.comes(u, 0);
        return x;
    }

    private static void twelveAtMost() {
        for (int count = 0; count <= 23; count++) {
            for (int w = 0; w < 2; w++) due("39: " + count + " right below", wide(count).halves(0, w), count <= 12 ? 0 : NONE);
        }
        BranchSums x = wide(13);
        due("39: another one", x.halves(23, 1), 0);
        x.goes(11);
        due("39: twelve again", x.halves(0, 1), 0);
        x.comes(11, 12);
        due("39: just those right below", x.halves(0, 1), 0);
        x.move(11, 0);
        due("39: thirteen again", x.halves(0, 1), NONE);
    }

    // ---- 43: "UNLIKE of two SUMS"; 44: "Of two SUMS what 0 .. 3"

    private static void two(String own, String other, int unlike, int both, int either, int spans, int lesser) {
        BranchSums x = Check.rolled("0(1 2)" + own + other);
        String call = own + " and " + other;
        int[] want = {both, either, spans, lesser};
        for (int w = 0; w < 4; w++) {
            due("44: what " + w + " of " + call, x.shared(1, 2, w), want[w]);
            due("44: the other way", x.shared(2, 1, w), want[w]);
        }
        due("43: unlike " + call, x.unlike(1, 2), unlike);
        due("43: the other way", x.unlike(2, 1), unlike);
        due("43: itself", x.unlike(1, 1) + x.unlike(2, 2), 0);
        due("44: itself", x.shared(1, 1, 3), x.unit(1, 8));
        due("44: its spans", x.shared(2, 2, 2), x.unit(2, 9));
        due("44: what 4, -1", x.shared(1, 2, 4) + x.shared(1, 2, -1), 2 * NONE);
        due("43: none such", x.unlike(1, 3) + x.unlike(3, 1) + x.unlike(3, 3), 3 * NONE);
        due("44: none such", x.shared(1, 3, 0) + x.shared(3, 1, 0) + x.shared(3, 3, 0), 3 * NONE);
    }

    private static void twoSums() {
        two("", "", 0, 0, 0, 0, 0);
        two(";1:0x1", "", 1, 0, 1, 0, 0);
        two(";1:0x1", ";2:63x1", 2, 0, 2, 1, 0);
        two(";1:31x1", ";2:32x1", 2, 0, 2, 1, 0);
        two(";1:0x1", ";2:1x1", 2, 0, 2, 6, 0);
        two(";1:0x1", ";2:0x2", 1, 1, 1, 7, 1);
        two(";1:63x5", ";2:63x5", 0, 1, 1, 7, 5);
        two(";1:0x9999", ";2:63x9999", 19998, 0, 2, 1, 0);
        two(";1:0x9999,63x1", ";2:0x1,63x9999", 19996, 2, 2, 13, 2);
        two(";1:5x3,6x4", ";2:5x4,6x3,7x1", 3, 2, 3, 9, 6);
    }

    // ---- 45: "UNITS whose first LEADER a CATEGORY is (a set)"

    private static void leadsOfEach() {
        for (int c : new int[] {0, 1, 31, 32, 62, 63}) {
            BranchSums x = new BranchSums();
            for (int u = 1; u < 24; u++) x.comes(u, 0);
            for (int u = 1; u < 24; u++) x.add(u, c, 1);
            due("45: none is rolled up", x.leads(c), 0);
            x.roll(23);
            due("45: the last one", x.leads(c), 1 << 23);
            x.roll(0);
            due("45: all", x.leads(c), (1 << 24) - 1);
            due("45: another one", x.leads((c + 1) % 64), 0);
            x.add(1, (c + 1) % 64, 1);
            x.add(2, (c + 63) % 64, 1);
            x.roll(1);
            x.roll(2);
            // Of several the least: c leads but where the other one is less.
            due("45: a tie with the next", x.leads(c), (1 << 24) - 1 - (c == 63 ? 2 : 0) - (c == 0 ? 0 : 4));
        }
        BranchSums x = Check.rolled("0(1)");
        for (int c = 0; c < 64; c++) due("45: without entries", x.leads(c), 0);
        due("45: -1, 64", x.leads(-1) + x.leads(64), 2 * NONE);
    }

    // ---- 46: "The deepest UNIT whose SUM has k at least of a CATEGORY (of several the least)"; k 1 .. 999999

    private static void whereOfEach() {
        for (int c : new int[] {0, 63}) {
            BranchSums x = Check.rolled("0(9(8)7(6(5))4);8:" + c + "x5;5:" + c + "x7;4:" + c + "x9999;6:" + c + "x2");
            int[] k = {1, 2, 5, 6, 7, 8, 9, 10, 11, 9999, 10000, 10013, 10014};
            int[] want = {5, 5, 5, 5, 5, 6, 6, 4, 4, 4, 0, 0, NONE};
            for (int i = 0; i < k.length; i++) due("46: where(" + c + ", " + k[i] + ")", x.where(c, k[i]), want[i]);
            due("46: k 0", x.where(c, 0), NONE);
            due("46: k -1", x.where(c, -1), NONE);
            due("46: k 999999", x.where(c, 999999), NONE);
            due("46: k 1000000", x.where(c, 1000000), NONE);
            due("46: of another", x.where(31, 1), NONE);
        }
        BranchSums x = Check.rolled("0(9(8)7(6)5(1));8:5x3;6:5x3;1:5x3;9:5x1");
        due("46: of several the least", x.where(5, 3), 1);
        due("46: one less deep", x.where(5, 4), 9);
        due("46: the head", x.where(5, 5), 0);
        due("46: -1, 64", x.where(-1, 1) + x.where(64, 1), 2 * NONE);
    }

    // ---- "SUMS are as they were rolled up the latest time": not OWN, not BRANCH SUMS

    private static List<Long> ofSeveral(BranchSums x, int[] units) {
        List<Long> seen = new ArrayList<>();
        for (int u : units) {
            seen.add((long) x.twin(u));
            for (int w = 0; w < 2; w++) seen.add((long) x.halves(u, w));
            for (int v : units) {
                seen.add((long) x.unlike(u, v));
                for (int w = 0; w < 4; w++) seen.add((long) x.shared(u, v, w));
            }
        }
        for (int c : new int[] {0, 5, 9, 62, 63}) {
            seen.add((long) x.leads(c));
            for (int k : new int[] {1, 4, 9, 20}) seen.add((long) x.where(c, k));
        }
        return seen;
    }

    private static void ofSumsAlone() {
        int[] units = {0, 1, 2, 22, 23};
        BranchSums x = Check.rolled("0(1(22 23)2);0:5x1;1:0x6;2:5x3,63x4;22:0x2,9x9;23:63x5,62x1");
        List<Long> want = ofSeveral(x, units);
        for (int u : units) {
            BranchSums y = Check.rolled("0(1(22 23)2);0:5x1;1:0x6;2:5x3,63x4;22:0x2,9x9;23:63x5,62x1");
            for (int c : new int[] {0, 5, 9, 31, 62, 63}) y.add(u, c, 7 * c + 20);
            List<Long> got = ofSeveral(y, units);
            for (int i = 0; i < want.size(); i++) due("33, 39, 43 to 46: with more OWN of " + u + ", " + i, got.get(i), want.get(i));
        }
        due("39: 19 of 1, 7 of 2", x.halves(0, 0) * 100 + x.halves(0, 1), 200 + 23 - 7);
        due("44: the lesser numbers of 22 and 1", x.shared(22, 1, 3), 11);
        due("46: the last unit", x.where(63, 5), 23);
        due("46: the last but one", x.where(9, 9), 22);
    }

    public static void main(String[] args) {
        ofSumsAlone();
        versionsOfAll();
        versionsThatGo();
        twinsOfEach();
        versionsOfEach();
        grewByEach();
        growthOfEachKind();
        halvesOfEach();
        halvesBehindOthers();
        halvesOfJustThese();
        twelveAtMost();
        twoSums();
        leadsOfEach();
        whereOfEach();
        Check.close("EdgesOfManyTest");
    }
}

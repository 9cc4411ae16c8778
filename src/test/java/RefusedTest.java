/**
 * Each call of the face with each of its numbers over the whole range of an int, those beside the span
 * that the document names first of all: the answer that is due, and that all else stays as it was.
 */
public final class RefusedTest {
    private static final int NONE = BranchSums.NONE;
    private static final int NO_GROWTH = NONE - 99999;
    private static final int[] NO_UNIT = Sight.outside(0, 23);
    /** Of SCENE: numbers that are no UNIT, and UNITS that are not there. */
    private static final int[] NOT_THERE = Sight.with(NO_UNIT, Sight.ABSENT);
    private static final int[] NO_CATEGORY = Sight.outside(0, 63);
    private static final int[] NOT_0_OR_1 = Sight.outside(0, 1);

    private static void refused(String call, int[] values, Sight.CallOf c) {
        Sight.stays(call, Sight.SCENE, NONE, values, c);
    }

    private static void refused(String call, long answer, int[] values, Sight.CallOf c) {
        Sight.stays(call, Sight.SCENE, answer, values, c);
    }

    private static long bit(boolean b) {
        return b ? 1 : 0;
    }

    private static void promises2and3() {
        refused("2: unit", NOT_THERE, (x, v) -> x.add(v, 9, 1));
        refused("2: category", NO_CATEGORY, (x, v) -> x.add(1, v, 1));
        refused("2: n", Sight.with(Sight.outside(-9999, 9999), 0), (x, v) -> x.add(1, 1, v));
        refused("2: n, below 0 then", Sight.outside(-4, Sight.MAX), (x, v) -> x.add(1, 9, v));
        refused("2: n, above 9999 then", Sight.outside(Sight.MIN, 9995), (x, v) -> x.add(1, 9, v));
        refused("2: n, of 9999", Sight.outside(-9999, -1), (x, v) -> x.add(0, 5, v));
        refused("3: no unit, or one that is there", 0, Sight.with(NO_UNIT, 0, 1, 2, 3, 4, 5, 6, 23), (x, v) -> bit(x.comes(v, 0)));
        refused("3: below", 0, NOT_THERE, (x, v) -> bit(x.comes(7, v)));
        refused("3: below itself", 0, Sight.ABSENT, (x, v) -> bit(x.comes(v, v)));
    }

    private static void promises4and5() {
        refused("4: unit", NOT_THERE, (x, v) -> x.goes(v));
        refused("4: the head, and those above others", new int[] {0, 1, 2, 4}, (x, v) -> x.goes(v));
        refused("5: unit", NOT_THERE, (x, v) -> x.move(v, 23));
        refused("5: the head", new int[] {0, 1, 2, 3, 4, 5, 6, 23}, (x, v) -> x.move(0, v));
        refused("5: below", NOT_THERE, (x, v) -> x.move(1, v));
        refused("5: itself", new int[] {0, 1, 2, 3, 4, 5, 6, 23}, (x, v) -> x.move(v, v));
        refused("5: into its branch", new int[] {2, 4, 5, 6}, (x, v) -> x.move(2, v));
        refused("5: where it is", new int[] {1, 2, 23}, (x, v) -> x.move(v, 0));
        refused("5: where it is, deeper", new int[] {4, 5}, (x, v) -> x.move(v, 2));
    }

    private static void promise6() {
        refused("6: from", NOT_THERE, (x, v) -> x.give(v, 3, 0, 0));
        refused("6: to", NOT_THERE, (x, v) -> x.give(3, v, 0, 0));
        refused("6: the same unit", new int[] {0, 1, 2, 3, 4, 5, 6, 23}, (x, v) -> x.give(v, v, 0, 63));
        refused("6: low", Sight.outside(0, 63), (x, v) -> x.give(1, 3, v, 63));
        refused("6: low, above high", Sight.outside(0, 9), (x, v) -> x.give(1, 3, v, 9));
        refused("6: high", Sight.outside(0, 63), (x, v) -> x.give(1, 3, 0, v));
        refused("6: high, below low", Sight.outside(9, 63), (x, v) -> x.give(1, 3, 9, v));
        refused("6: both", NO_CATEGORY, (x, v) -> x.give(1, 3, v, v));
    }

    private static void promises7and8() {
        refused("7: unit", NOT_THERE, (x, v) -> x.roll(v));
        refused("7: not stale", new int[] {3, 5, 23}, (x, v) -> x.roll(v));
        refused("8: category", NO_CATEGORY, (x, v) -> x.recode(v, 9));
        refused("8: other", NO_CATEGORY, (x, v) -> x.recode(9, v));
        refused("8: the same", range(0, 63), (x, v) -> x.recode(v, v));
        refused("8: nobody has it", Sight.without(range(0, 63), 0, 5, 9, 30, 32, 62, 63), (x, v) -> x.recode(v, 33));
    }

    private static int[] range(int low, int high) {
        int[] all = new int[high - low + 1];
        for (int i = 0; i < all.length; i++) all[i] = low + i;
        return all;
    }

    private static void promises9to13() {
        refused("9: unit", NO_UNIT, (x, v) -> x.limit(v, 0, 63, 1));
        refused("9: unit, none any more", NO_UNIT, (x, v) -> x.limit(v, 0, 63, NONE));
        refused("9: low", NO_CATEGORY, (x, v) -> x.limit(0, v, 63, 1));
        refused("9: low, above high", Sight.outside(0, 9), (x, v) -> x.limit(0, v, 9, 1));
        refused("9: high", NO_CATEGORY, (x, v) -> x.limit(0, 0, v, 1));
        refused("9: high, below low", Sight.outside(9, 63), (x, v) -> x.limit(0, 9, v, 1));
        refused("9: n", Sight.outside(NONE, 999999), (x, v) -> x.limit(0, 0, 63, v));
        refused("9: there is none such of that unit", Sight.without(range(0, 23), 0, 1), (x, v) -> x.limit(v, 0, 63, NONE));
        refused("9: there is none such from there", range(1, 63), (x, v) -> x.limit(0, v, 63, NONE));
        refused("9: there is none such up to there", range(0, 62), (x, v) -> x.limit(0, 0, v, NONE));
        refused("10: i", Sight.outside(NONE, 2), (x, v) -> x.broken(v, 0));
        refused("10: i, by how much", Sight.outside(NONE, 2), (x, v) -> x.broken(v, 1));
        refused("10: what", NOT_0_OR_1, (x, v) -> x.broken(0, v));
        refused("10: i NONE, whatever what is", 3, Sight.outside(0, 0), (x, v) -> x.broken(NONE, v));
        refused("13: n", 0, Sight.outside(0, 23), (x, v) -> bit(x.end(v)));
        refused("15: what", NOT_0_OR_1, (x, v) -> x.fault(v));
    }

    private static void promises17to21() {
        refused("17: unit", NOT_THERE, (x, v) -> x.unit(v, 1));
        refused("17: what", Sight.outside(0, 11), (x, v) -> x.unit(23, v));
        refused("18: unit", NOT_THERE, (x, v) -> x.below(v, 0));
        refused("18: i", Sight.outside(0, 2), (x, v) -> x.below(0, v));
        refused("18: none below", Sight.with(NO_UNIT, range(0, 23)), (x, v) -> x.below(23, v));
        refused("19: unit", NOT_THERE, (x, v) -> x.above(v, 0));
        refused("19: k", Sight.outside(0, 3), (x, v) -> x.above(6, v));
        refused("19: k, of the head", Sight.outside(0, 0), (x, v) -> x.above(0, v));
        refused("20: unit", NOT_THERE, (x, v) -> x.both(v, 0));
        refused("20: other", NOT_THERE, (x, v) -> x.both(0, v));
        refused("20: both", NOT_THERE, (x, v) -> x.both(v, v));
        refused("21: unit", NOT_THERE, (x, v) -> x.of(v, 0, 0));
        refused("21: unit, sum", NOT_THERE, (x, v) -> x.of(v, 0, 1));
        refused("21: unit, branch sum", NOT_THERE, (x, v) -> x.of(v, 0, 2));
        refused("21: category", NO_CATEGORY, (x, v) -> x.of(0, v, 0));
        refused("21: category, sum", NO_CATEGORY, (x, v) -> x.of(0, v, 1));
        refused("21: category, branch sum", NO_CATEGORY, (x, v) -> x.of(0, v, 2));
        refused("21: what", Sight.outside(0, 2), (x, v) -> x.of(0, 5, v));
    }

    private static void promises22to29() {
        refused("22: unit", NOT_THERE, (x, v) -> x.ranked(v, 0));
        // The SUM of UNIT 3 is 5x12, 30x7: 19 entries.
        refused("22: rank", Sight.outside(0, 18), (x, v) -> x.ranked(3, v));
        refused("23: unit", NOT_THERE, (x, v) -> x.less(v, 0));
        refused("23: category", Sight.outside(0, 64), (x, v) -> x.less(3, v));
        refused("24: unit", NOT_THERE, (x, v) -> x.leader(v, 0, 0));
        refused("24: i", Sight.outside(0, 1), (x, v) -> x.leader(3, v, 0));
        refused("24: i, its number", Sight.outside(0, 1), (x, v) -> x.leader(3, v, 1));
        refused("24: what", NOT_0_OR_1, (x, v) -> x.leader(3, 0, v));
        refused("25: unit", NOT_THERE, (x, v) -> x.median(v));
        refused("26: unit", 0, NOT_THERE, (x, v) -> x.heavy(v, 0));
        refused("26: p", 0, Sight.outside(0, 100), (x, v) -> x.heavy(3, v));
        refused("27: unit", NOT_THERE, (x, v) -> x.squares(v));
        refused("28: unit", NOT_THERE, (x, v) -> x.seats(v, 1, 5));
        refused("28: n", Sight.outside(0, 200), (x, v) -> x.seats(3, v, 5));
        refused("28: category", NO_CATEGORY, (x, v) -> x.seats(3, 1, v));
        refused("28: category, of n 0", NO_CATEGORY, (x, v) -> x.seats(3, 0, v));
        refused("29: unit", NOT_THERE, (x, v) -> x.percent(v, 5));
        refused("29: category", NO_CATEGORY, (x, v) -> x.percent(3, v));
    }

    private static void promises30to35() {
        refused("30: unit", NOT_THERE, (x, v) -> x.quantile(v, 50));
        refused("30: p", Sight.outside(1, 100), (x, v) -> x.quantile(3, v));
        refused("31: unit", NOT_THERE, (x, v) -> x.few(v, 50));
        refused("31: p", Sight.outside(1, 100), (x, v) -> x.few(3, v));
        refused("32: unit", NOT_THERE, (x, v) -> x.run(v, 0, 0));
        refused("32: unit, how many", NOT_THERE, (x, v) -> x.run(v, NONE, 0));
        refused("32: unit, the longest", NOT_THERE, (x, v) -> x.run(v, NONE - 1, 0));
        refused("32: unit, the one with the most", NOT_THERE, (x, v) -> x.run(v, NONE - 2, 0));
        refused("32: i", Sight.outside(NONE - 2, 1), (x, v) -> x.run(3, v, 0));
        refused("32: i, all in it", Sight.outside(NONE - 2, 1), (x, v) -> x.run(3, v, 2));
        refused("32: what", Sight.outside(0, 2), (x, v) -> x.run(3, 0, v));
        refused("32: what, of the longest", Sight.outside(0, 2), (x, v) -> x.run(3, NONE - 1, v));
        refused("32: what, of the one with the most", Sight.outside(0, 2), (x, v) -> x.run(3, NONE - 2, v));
        refused("32: i NONE, whatever what is", 2, Sight.outside(0, 0), (x, v) -> x.run(3, NONE, v));
        refused("33: unit", NOT_THERE, (x, v) -> x.twin(v));
        refused("35: i", Sight.outside(0, chosenReport().length() - 1), (x, v) -> x.sign(v));
    }

    private static String chosenReport() {
        BranchSums x = Sight.SCENE.make();
        StringBuilder s = new StringBuilder();
        for (int i = 0; x.sign(i) != NONE && i < 99; i++) s.append((char) x.sign(i));
        return s.toString();
    }

    /** report() of none such leaves all but the chosen REPORT. */
    private static void promise34() {
        Sight.Maker none = () -> {
            BranchSums x = Sight.SCENE.make();
            x.report(7);
            return x;
        };
        Check.due("34: none is chosen then", none.make().sign(0), NONE);
        Check.due("34: one is chosen", chosenReport().equals("0: 5x10012 63x9999 9x10 32x8 31x7 +2"), true);
        Sight.stays("34: unit", none, NONE, NOT_THERE, (x, v) -> x.report(v));
        BranchSums x = Sight.SCENE.make();
        for (int u : new int[] {7, 22, 24, -1, Sight.MIN, Sight.MAX}) {
            x.report(1);
            Check.due("34: none such, " + u, x.report(u), NONE);
            Check.due("34: none being chosen, " + u, x.sign(0), NONE);
        }
        for (int w = 0; w <= 12; w++) Check.due("34: look(" + w + ")", x.look(w), Sight.SCENE.make().look(w));
    }

    private static void promises36to39() {
        refused("36: unit", NOT_THERE, (x, v) -> x.versions(v));
        refused("37: unit", NOT_THERE, (x, v) -> x.was(v, 0, 5));
        refused("37: v", Sight.outside(0, 2), (x, v) -> x.was(0, v, 5));
        refused("37: category", NO_CATEGORY, (x, v) -> x.was(0, 0, v));
        refused("38: unit", NO_GROWTH, NOT_THERE, (x, v) -> x.grew(v, 1, 0));
        refused("38: v", NO_GROWTH, Sight.outside(1, 2), (x, v) -> x.grew(0, v, 0));
        refused("38: what", NO_GROWTH, Sight.outside(0, 4), (x, v) -> x.grew(0, 1, v));
        refused("39: unit", NOT_THERE, (x, v) -> x.halves(v, 0));
        refused("39: unit, how far apart", NOT_THERE, (x, v) -> x.halves(v, 1));
        refused("39: what", NOT_0_OR_1, (x, v) -> x.halves(0, v));
    }

    private static void promises40to44() {
        refused("40: unit", NOT_THERE, (x, v) -> x.chain(v, 0, 5));
        refused("40: other", NOT_THERE, (x, v) -> x.chain(0, v, 5));
        refused("40: unit, of all", NOT_THERE, (x, v) -> x.chain(v, v, NONE));
        refused("40: category", Sight.outside(NONE, 63), (x, v) -> x.chain(0, 6, v));
        refused("41: unit", NOT_THERE, (x, v) -> x.hops(v, 0));
        refused("41: other", NOT_THERE, (x, v) -> x.hops(0, v));
        refused("42: unit, and no draw", NOT_THERE, (x, v) -> x.drawn(v, 1, 5));
        refused("42: n, and no draw", Sight.outside(1, 50), (x, v) -> x.drawn(3, v, 5));
        refused("42: category, and no draw", NO_CATEGORY, (x, v) -> x.drawn(3, 1, v));
        refused("43: unit", NOT_THERE, (x, v) -> x.unlike(v, 0));
        refused("43: other", NOT_THERE, (x, v) -> x.unlike(0, v));
        refused("43: both", NOT_THERE, (x, v) -> x.unlike(v, v));
        refused("44: unit", NOT_THERE, (x, v) -> x.shared(v, 0, 0));
        refused("44: other", NOT_THERE, (x, v) -> x.shared(0, v, 1));
        refused("44: both", NOT_THERE, (x, v) -> x.shared(v, v, 2));
        refused("44: what", Sight.outside(0, 3), (x, v) -> x.shared(0, 1, v));
    }

    private static void promises45to52() {
        refused("45: category", NO_CATEGORY, (x, v) -> x.leads(v));
        refused("46: category", NO_CATEGORY, (x, v) -> x.where(v, 1));
        refused("46: k", Sight.outside(1, 999999), (x, v) -> x.where(5, v));
        refused("47: unit", NOT_THERE, (x, v) -> x.cost(v));
        refused("48: unit", NOT_THERE, (x, v) -> x.would(v, 23, 0));
        refused("48: unit, stale ones", NOT_THERE, (x, v) -> x.would(v, 23, 3));
        refused("48: below", NOT_THERE, (x, v) -> x.would(1, v, 0));
        refused("48: below, its leader", NOT_THERE, (x, v) -> x.would(1, v, 1));
        refused("48: what", Sight.outside(0, 3), (x, v) -> x.would(1, 23, v));
        refused("49: unit", Sight.with(NOT_THERE, 0), (x, v) -> x.home(v));
        refused("50: what", Sight.outside(0, 10), (x, v) -> x.count(v));
        refused("52: what", Sight.outside(0, 12), (x, v) -> x.look(v));
    }

    public static void main(String[] args) {
        promises2and3();
        promises4and5();
        promise6();
        promises7and8();
        promises9to13();
        promises17to21();
        promises22to29();
        promises30to35();
        promise34();
        promises36to39();
        promises40to44();
        promises45to52();
        Check.close("RefusedTest");
    }
}

/** Promises 22 to 32, 34, 35 and 42: what is told of one SUM. */
public final class SumTest {
    private static final int NONE = BranchSums.NONE;
    private static final int MIN = Integer.MIN_VALUE;
    private static final int MAX = Integer.MAX_VALUE;

    private static void due(String call, long got, long want) {
        Check.due(call, got, want);
    }

    /** What the head's SUM is, its OWN being other by now; UNIT 1 is without entries. */
    private static BranchSums sample() {
        BranchSums x = Check.rolled("0(1);0:3x5,4x2,5x5,10x1,20x7");
        x.add(0, 20, 1);
        x.add(0, 30, 50);
        return x;
    }

    private static BranchSums of(String entries) {
        return Check.rolled("0;0:" + entries);
    }

    private static void promise22() {
        BranchSums x = sample();
        int[] ranks = {0, 4, 5, 6, 7, 11, 12, 13, 19};
        int[] want = {3, 3, 4, 4, 5, 5, 10, 20, 20};
        for (int i = 0; i < ranks.length; i++) due("22: rank " + ranks[i], x.ranked(0, ranks[i]), want[i]);
        due("22: rank 20", x.ranked(0, 20), NONE);
        due("22: rank -1", x.ranked(0, -1), NONE);
        due("22: rank least", x.ranked(0, MIN), NONE);
        due("22: rank greatest", x.ranked(0, MAX), NONE);
        due("22: without entries", x.ranked(1, 0), NONE);
        due("22: none such", x.ranked(2, 0) + x.ranked(-1, 0) + x.ranked(24, 0), 3 * NONE);
        due("22: category 0", of("0x1,5x1").ranked(0, 0) * 10 + of("0x1,5x1").ranked(0, 1), 5);
        due("22: category 63", of("63x1").ranked(0, 0), 63);
    }

    private static void promise23() {
        BranchSums x = sample();
        int[] categories = {0, 3, 4, 5, 6, 10, 11, 20, 21, 63, 64};
        int[] want = {0, 0, 5, 7, 12, 12, 13, 13, 20, 20, 20};
        for (int i = 0; i < want.length; i++) due("23: less(0, " + categories[i] + ")", x.less(0, categories[i]), want[i]);
        due("23: 65", x.less(0, 65), NONE);
        due("23: -1", x.less(0, -1), NONE);
        due("23: greatest", x.less(0, MAX), NONE);
        due("23: none such", x.less(2, 0) + x.less(-1, 0) + x.less(24, 0), 3 * NONE);
        due("23: category 0", of("0x4").less(0, 1), 4);
        due("23: category 63", of("63x4").less(0, 63) * 10 + of("63x4").less(0, 64), 4);
    }

    private static void promise24() {
        BranchSums x = sample();
        int[] categories = {20, 3, 5, 4, 10};
        int[] numbers = {7, 5, 5, 2, 1};
        for (int i = 0; i < 5; i++) {
            due("24: leader " + i, x.leader(0, i, 0), categories[i]);
            due("24: its number", x.leader(0, i, 1), numbers[i]);
        }
        due("24: leader 5", x.leader(0, 5, 0), NONE);
        due("24: leader -1", x.leader(0, -1, 0), NONE);
        due("24: leader least", x.leader(0, MIN, 0), NONE);
        due("24: leader greatest", x.leader(0, MAX, 1), NONE);
        due("24: leader 64", x.leader(0, 64, 1), NONE);
        due("24: what 2", x.leader(0, 0, 2), NONE);
        due("24: what -1", x.leader(0, 0, -1), NONE);
        due("24: without entries", x.leader(1, 0, 0), NONE);
        due("24: none such", x.leader(2, 0, 0) + x.leader(-1, 0, 0) + x.leader(24, 0, 0), 3 * NONE);
    }

    private static void promise25() {
        due("25: of 20", sample().median(0), 5);
        due("25: of 2", of("1x1,2x1").median(0), 1);
        due("25: of 3", of("1x1,2x2").median(0), 2);
        due("25: of 4", of("1x2,2x2").median(0), 1);
        due("25: of 1", of("63x1").median(0), 63);
        due("25: without entries", sample().median(1), NONE);
        due("25: none such", sample().median(2) + sample().median(-1) + sample().median(24), 3 * NONE);
    }

    private static void promise26() {
        BranchSums x = sample();
        long all = 1L << 3 | 1L << 4 | 1L << 5 | 1L << 10 | 1L << 20;
        due("26: heavy(0, 25)", x.heavy(0, 25), 1L << 20);
        due("26: heavy(0, 24)", x.heavy(0, 24), 1L << 20 | 1L << 3 | 1L << 5);
        due("26: heavy(0, 35)", x.heavy(0, 35), 0);
        due("26: heavy(0, 34)", x.heavy(0, 34), 1L << 20);
        due("26: heavy(0, 0)", x.heavy(0, 0), all);
        due("26: heavy(0, 4)", x.heavy(0, 4), all);
        due("26: heavy(0, 5)", x.heavy(0, 5), all ^ 1L << 10);
        due("26: heavy(0, 101)", x.heavy(0, 101), 0);
        due("26: heavy(0, -1)", x.heavy(0, -1), 0);
        due("26: none such", x.heavy(2, 0), 0);
        due("26: -1", x.heavy(-1, 0) + x.heavy(24, 0), 0);
        due("26: bit 0", of("0x1").heavy(0, 99), 1);
        due("26: bit 63", of("63x1").heavy(0, 99), Long.MIN_VALUE);
        due("26: not more than all", of("63x1").heavy(0, 100), 0);
        due("26: without entries", x.heavy(1, 0), 0);
    }

    private static void promise27() {
        due("27: squares", sample().squares(0), 104);
        due("27: without entries", sample().squares(1), 0);
        due("27: none such", sample().squares(2) + sample().squares(-1) + sample().squares(24), 3 * NONE);
        due("27: beyond an int", of("0x9999,63x9999").squares(0), 2 * 9999L * 9999L);
        BranchSums x = new BranchSums();
        x.add(0, 7, 9999);
        for (int u = 1; u < 6; u++) {
            x.comes(u, 0);
            x.add(u, 7, 9999);
        }
        x.roll(0);
        due("27: of one beyond an int", x.squares(0), 59994L * 59994L);
    }

    private static void promise28() {
        BranchSums x = sample();
        int[][] want = {
            // n, then the seats of 3, 4, 5, 10, 20
            {0, 0, 0, 0, 0, 0}, {1, 0, 0, 0, 0, 1}, {2, 1, 0, 0, 0, 1}, {3, 1, 0, 1, 0, 1}, {4, 1, 0, 1, 0, 2},
            {5, 2, 0, 1, 0, 2}, {6, 2, 0, 2, 0, 2}, {7, 2, 0, 2, 0, 3}, {8, 2, 1, 2, 0, 3}, {9, 2, 1, 2, 0, 4},
            {200, 50, 20, 50, 10, 70}
        };
        int[] categories = {3, 4, 5, 10, 20};
        for (int[] row : want) {
            for (int i = 0; i < 5; i++) due("28: seats of " + row[0], x.seats(0, row[0], categories[i]), row[i + 1]);
        }
        due("28: none has", x.seats(0, 200, 30), 0);
        due("28: without entries", x.seats(1, 5, 0), 0);
        due("28: n 201", x.seats(0, 201, 3), NONE);
        due("28: n -1", x.seats(0, -1, 3), NONE);
        due("28: category 64", x.seats(0, 5, 64), NONE);
        due("28: category -1", x.seats(0, 5, -1), NONE);
        due("28: none such", x.seats(2, 5, 3) + x.seats(-1, 5, 3) + x.seats(24, 5, 3), 3 * NONE);
        x = of("1x6,2x3");
        due("28: a tie goes to the least", x.seats(0, 2, 1) * 10 + x.seats(0, 2, 2), 20);
        due("28: the first category and the last", of("0x2,63x1").seats(0, 3, 0) * 10 + of("0x2,63x1").seats(0, 3, 63), 21);
        due("28: exact fractions", of("1x9999,2x3333").seats(0, 3, 1), 3);
    }

    private static void percents(String entries, int... want) {
        BranchSums x = of(entries);
        for (int i = 0; i < want.length; i += 2) {
            due("29: percent " + want[i] + " of " + entries, x.percent(0, want[i]), want[i + 1]);
        }
    }

    private static void promise29() {
        percents("3x5,4x2,5x5,10x1,20x7", 0, 0, 3, 25, 4, 10, 5, 25, 10, 5, 20, 35);
        percents("0x1,1x1,2x1", 0, 34, 1, 33, 2, 33, 3, 0);
        percents("5x1,6x1,7x1,8x1,9x1,10x1,63x1", 5, 15, 6, 15, 7, 14, 10, 14, 63, 14);
        percents("0x1,1x5", 0, 17, 1, 83);
        percents("0x5,1x1", 0, 83, 1, 17);
        percents("63x9999", 62, 0, 63, 100);
        percents("5x1", 5, 100, 6, 0);
        BranchSums x = sample();
        due("29: without entries", x.percent(1, 0), 0);
        due("29: category 64", x.percent(0, 64), NONE);
        due("29: category -1", x.percent(0, -1), NONE);
        due("29: none such", x.percent(2, 3) + x.percent(-1, 3) + x.percent(24, 3), 3 * NONE);
    }

    private static void promises30and31() {
        BranchSums x = sample();
        int[] p = {1, 25, 26, 35, 36, 60, 61, 65, 66, 100};
        int[] quantiles = {3, 3, 4, 4, 5, 5, 10, 10, 20, 20};
        for (int i = 0; i < p.length; i++) due("30: quantile " + p[i], x.quantile(0, p[i]), quantiles[i]);
        int[] q = {1, 35, 36, 60, 61, 85, 86, 95, 96, 100};
        int[] few = {1, 1, 2, 2, 3, 3, 4, 4, 5, 5};
        for (int i = 0; i < q.length; i++) due("31: few " + q[i], x.few(0, q[i]), few[i]);
        int[] wrong = {0, 101, -1, MIN, MAX};
        for (int w : wrong) {
            due("30: p " + w, x.quantile(0, w), NONE);
            due("31: p " + w, x.few(0, w), NONE);
        }
        due("30: without entries", x.quantile(1, 50), NONE);
        due("30: none such", x.quantile(2, 50) + x.quantile(-1, 50) + x.quantile(24, 50), 3 * NONE);
        due("31: without entries", x.few(1, 50), NONE);
        due("31: none such", x.few(2, 50) + x.few(-1, 50) + x.few(24, 50), 3 * NONE);
        due("30: of one", of("0x1").quantile(0, 1) * 10 + of("5x1").quantile(0, 100), 5);
        due("31: of one", of("0x1").few(0, 1) * 10 + of("5x1").few(0, 100), 11);
        due("30: nothing of many", of("0x1,63x9999").quantile(0, 1), 63);
    }

    private static void promise32() {
        BranchSums x = Check.rolled("0(1);0:0x1,1x1,8x9,10x1,11x1,12x1,20x1,21x1,22x1,62x4,63x5");
        int[][] runs = {{0, 1, 2}, {8, 8, 9}, {10, 12, 3}, {20, 22, 3}, {62, 63, 9}};
        for (int i = 0; i < 5; i++) {
            for (int what = 0; what < 3; what++) due("32: run " + i, x.run(0, i, what), runs[i][what]);
        }
        for (int what = 0; what < 3; what++) {
            due("32: the longest", x.run(0, NONE - 1, what), runs[2][what]);
            due("32: the one with the most", x.run(0, NONE - 2, what), runs[1][what]);
        }
        due("32: how many", x.run(0, NONE, 0), 5);
        due("32: whatever what is", x.run(0, NONE, 99), 5);
        due("32: run 5", x.run(0, 5, 0), NONE);
        due("32: run -4", x.run(0, -4, 0), NONE);
        due("32: run least", x.run(0, MIN, 0), NONE);
        due("32: run greatest", x.run(0, MAX, 0), NONE);
        due("32: what 3", x.run(0, 0, 3), NONE);
        due("32: what -1", x.run(0, -2, -1), NONE);
        due("32: the first category", of("0x9,1x1,5x1").run(0, -2, 0) * 10 + of("0x9,5x1").run(0, -3, 1), 0);
        due("32: of one", of("7x1").run(0, -2, 0) * 10 + of("7x1").run(0, -3, 0), 77);
        due("32: just longer", of("7x1,9x1,10x1,12x5").run(0, -2, 0), 9);
        due("32: of several the first", of("7x1,9x1").run(0, -2, 0) + of("7x1,9x1").run(0, -3, 0), 14);
        due("32: without entries", x.run(1, NONE, 0), 0);
        due("32: none of them", x.run(1, 0, 0) + x.run(1, -2, 0) + x.run(1, -3, 0), 3 * NONE);
        due("32: none such", x.run(2, 0, 0) + x.run(-1, NONE, 0) + x.run(24, -2, 0), 3 * NONE);
    }

    private static void promises34and35() {
        BranchSums x = sample();
        Check.report(x, 0, "0: 20x7 3x5 5x5 4x2 10x1");
        due("34: signs", x.report(0), 24);
        due("34: a report of none", x.report(1), 2);
        due("35: sign 0", x.sign(0), '1');
        due("35: sign 1", x.sign(1), ':');
        due("35: sign 2", x.sign(2), NONE);
        x.report(0);
        x.roll(0);
        due("35: as it was then", x.sign(3), '2');
        due("35: its number then", x.sign(6), '7');
        Check.report(x, 0, "0: 30x50 20x8 3x5 5x5 4x2 +1");
        due("35: sign -1", x.sign(-1), NONE);
        due("35: sign least", x.sign(MIN), NONE);
        due("35: sign greatest", x.sign(MAX), NONE);
        due("34: none such", x.report(2), NONE);
        due("35: none chosen", x.sign(0), NONE);
        x.report(0);
        due("34: -1", x.report(-1), NONE);
        due("35: none chosen", x.sign(0), NONE);
        x.report(0);
        due("34: 24", x.report(24), NONE);
        due("35: none chosen", x.sign(0), NONE);
        BranchSums y = Check.rolled("0(23);23:0x9999,1x10,2x10,3x100,4x1,5x1,6x1,7x1,8x1,9x1,10x1,11x1,12x1,13x1,14x1,15x1");
        Check.report(y, 23, "23: 0x9999 3x100 1x10 2x10 4x1 +11");
        Check.report(y, 0, "0: 0x9999 3x100 1x10 2x10 4x1 +11");
        for (int i = 0; i < 4; i++) {
            y.comes(i + 1, 0);
            y.add(i + 1, 0, 9999);
        }
        y.roll(0);
        Check.report(y, 0, "0: 0x49995 3x100 1x10 2x10 4x1 +11");
    }

    private static void allCategories() {
        StringBuilder s = new StringBuilder("0x1");
        for (int c = 1; c < 64; c++) s.append(",").append(c).append("x1");
        BranchSums x = of(s.toString());
        due("24: the last leader", x.leader(0, 63, 0), 63);
        due("24: none behind it", x.leader(0, 64, 0), NONE);
        due("26: all", x.heavy(0, 1), -1L);
        due("31: all", x.few(0, 100), 64);
        due("32: one run", x.run(0, NONE, 0) * 100 + x.run(0, 0, 1), 163);
        due("32: the longest", x.run(0, -2, 2), 64);
        due("17: nodes", x.unit(0, 9), 127);
        Check.report(x, 0, "0: 0x1 1x1 2x1 3x1 4x1 +59");
        percents(s.toString(), 0, 2, 35, 2, 36, 1, 63, 1);
    }

    /** UNIT 23 with all others but the HEAD below it, each as full as can be in five CATEGORIES. */
    private static void longestReport() {
        BranchSums x = new BranchSums();
        x.comes(23, 0);
        for (int u = 1; u < 23; u++) x.comes(u, 23);
        for (int u = 1; u < 24; u++) {
            for (int c = 59; c < 64; c++) x.add(u, c, 9999);
        }
        for (int c = 0; c < 59; c++) x.add(23, c, 1);
        x.roll(0);
        due("34: the longest", x.report(23), 57);
        Check.report(x, 23, "23: 59x229977 60x229977 61x229977 62x229977 63x229977 +59");
        due("35: its last sign", x.sign(56), '9');
        due("35: none behind it", x.sign(57) + x.sign(63) + x.sign(64), 3 * NONE);
        x.report(1);
        due("35: none of the one ahead", x.sign(x.report(1)), NONE);
    }

    private static void promise42() {
        BranchSums x = sample();
        int[] firsts = {3, 20, 20, 5, 4, 20};
        for (int n = 1; n <= 6; n++) {
            int hits = 0;
            for (int i = 0; i < n; i++) if (firsts[i] == 20) hits++;
            x.state(0);
            due("42: drawn " + n, x.drawn(0, n, 20), hits);
        }
        due("42: state goes on", x.state(0), -1624324474);
        due("42: of 3", x.drawn(0, 6, 3), 1);
        x.state(-5);
        due("42: all, if there are fewer", x.drawn(0, 50, 20), 7);
        due("42: just so many draws", x.state(-5), 905270639);
        due("42: n 0", x.drawn(0, 0, 3), NONE);
        due("42: n 51", x.drawn(0, 51, 3), NONE);
        due("42: n -1", x.drawn(0, -1, 3), NONE);
        due("42: category 64", x.drawn(0, 1, 64), NONE);
        due("42: category -1", x.drawn(0, 1, -1), NONE);
        due("42: none such", x.drawn(2, 1, 3) + x.drawn(-1, 1, 3) + x.drawn(24, 1, 3), 3 * NONE);
        due("42: without entries", x.drawn(1, 50, 0), 0);
        due("42: no draw", x.state(0), -5);
        due("42: the sum stays", x.unit(0, 8), 20);
    }

    public static void main(String[] args) {
        promise22();
        promise23();
        promise24();
        promise25();
        promise26();
        promise27();
        promise28();
        promise29();
        promises30and31();
        promise32();
        promises34and35();
        allCategories();
        longestReport();
        promise42();
        Check.close("SumTest");
    }
}

/** Promises 22 to 32, 34, 35 and 42 at the bounds that they name: what is told of one SUM. */
public final class EdgesOfSumTest {
    private static final int NONE = BranchSums.NONE;
    /** SUMS with a hundred entries, with hundredths that are no whole ones, with ties, at both ends. */
    private static final String[] SUMS = {
        "0x1", "63x1", "0x1,63x1", "0x1,1x99", "62x99,63x1", "0x50,63x50", "5x1,6x1,7x1", "0x1,31x2,32x3,63x4",
        "0x199,1x1", "0x1,1x199", "3x5,4x2,5x5,10x1,20x7", "0x9999,63x9999", "0x9999,63x1", "0x1,63x9999",
        "9x7,10x7,11x7,13x7,14x7,20x7,62x7", "0x33,1x33,2x34", "0x2,2x2,4x2,6x2,8x2,10x2,12x2", "0x1000,20x10,40x1"
    };

    private static void due(String call, long got, long want) {
        Check.due(call, got, want);
    }

    private static BranchSums of(String entries) {
        return Check.rolled("0(1);0:" + entries);
    }

    private static int[] row(BranchSums x) {
        int[] row = new int[64];
        for (int c = 0; c < 64; c++) row[c] = x.of(0, c, 0);
        return row;
    }

    private static int all(int[] row) {
        int all = 0;
        for (int n : row) all += n;
        return all;
    }

    // ---- 22: "CATEGORY of the entry of a RANK"; 23: "less than one (0 .. 64)"; 25: "(all less 1) by 2, downwards"

    private static void ranksAtTheEdges(String sum) {
        BranchSums x = of(sum);
        int[] row = row(x);
        int ahead = 0;
        for (int c = 0; c < 64; c++) {
            due("23: less than " + c + " of " + sum, x.less(0, c), ahead);
            if (row[c] == 0) continue;
            due("22: the first of " + c, x.ranked(0, ahead), c);
            ahead += row[c];
            due("22: the last of " + c, x.ranked(0, ahead - 1), c);
        }
        due("23: less than 64", x.less(0, 64), ahead);
        due("23: 65", x.less(0, 65), NONE);
        due("23: -1", x.less(0, -1), NONE);
        due("22: rank -1", x.ranked(0, -1), NONE);
        due("22: behind all", x.ranked(0, ahead), NONE);
        due("25: median", x.median(0), x.ranked(0, (ahead - 1) / 2));
    }

    private static void medians() {
        for (int n = 1; n <= 8; n++) {
            for (int low = 1; low < n; low++) {
                BranchSums x = of("0x" + low + ",63x" + (n - low));
                due("25: of " + low + " and " + (n - low), x.median(0), (n - 1) / 2 < low ? 0 : 63);
            }
            due("25: of " + n, of("7x" + n).median(0), 7);
        }
        due("25: without entries", of("7x1").median(1), NONE);
        due("25: none such", of("7x1").median(2), NONE);
        due("22: without entries", of("7x1").ranked(1, 0), NONE);
        due("23: without entries", of("7x1").less(1, 64), 0);
    }

    // ---- 24: "The i-th LEADER ... of several the least CATEGORY"

    private static void leaders(String sum) {
        BranchSums x = of(sum);
        int[] row = row(x);
        int i = 0;
        for (int n = 9999; n >= 1; n--) {
            for (int c = 0; c < 64; c++) {
                if (row[c] != n) continue;
                due("24: leader " + i + " of " + sum, x.leader(0, i, 0), c);
                due("24: its number", x.leader(0, i, 1), n);
                i++;
            }
        }
        due("24: none behind the last", x.leader(0, i, 0), NONE);
        due("24: nor its number", x.leader(0, i, 1), NONE);
        due("24: i -1", x.leader(0, -1, 0), NONE);
        due("24: what 2", x.leader(0, 0, 2), NONE);
        due("24: what -1", x.leader(0, 0, -1), NONE);
        due("24: without entries", x.leader(1, 0, 0), NONE);
    }

    private static String allCategories(int n) {
        StringBuilder s = new StringBuilder();
        for (int c = 0; c < 64; c++) s.append(c > 0 ? "," : "").append(c).append("x").append(n);
        return s.toString();
    }

    // ---- 26: "more than p (0 .. 100) of a hundred of all (bit k for k). 0 if one can't be"

    private static void heavy(String sum) {
        BranchSums x = of(sum);
        int[] row = row(x);
        for (int p = 0; p <= 100; p++) {
            long want = 0;
            for (int c = 0; c < 64; c++) {
                if (100 * row[c] > p * all(row)) want |= 1L << c;
            }
            due("26: heavy " + p + " of " + sum, x.heavy(0, p), want);
        }
        due("26: p -1", x.heavy(0, -1), 0);
        due("26: p 101", x.heavy(0, 101), 0);
        due("26: without entries", x.heavy(1, 0), 0);
        due("26: none such", x.heavy(2, 0), 0);
    }

    private static void justHeavy() {
        BranchSums x = of("0x1,63x99");
        due("26: 0 is above 0", x.heavy(0, 0), 1 | 1L << 63);
        due("26: 1 is not above 1", x.heavy(0, 1), 1L << 63);
        due("26: 99 is above 98", x.heavy(0, 98), 1L << 63);
        due("26: 99 is not above 99", x.heavy(0, 99), 0);
        due("26: none is above 100", of("5x1").heavy(0, 100), 0);
        due("26: all is above 99", of("5x1").heavy(0, 99), 1L << 5);
    }

    // ---- 27: "All numbers of a SUM, squared, together"

    private static void squares() {
        due("27: of 1", of("63x1").squares(0), 1);
        due("27: of 9999", of("0x9999").squares(0), 99980001);
        due("27: of two", of("0x3,63x4").squares(0), 25);
        due("27: without entries", of("5x1").squares(1), 0);
        due("27: none such", of("5x1").squares(2), NONE);
        BranchSums x = of(allCategories(9));
        for (int c = 0; c < 64; c++) x.add(0, c, 9990);
        x.roll(0);
        due("27: of 64 with 9999", x.squares(0), 64L * 9999 * 9999);
    }

    // ---- 28: "SEATS of n (0 .. 200) that a CATEGORY has"; "of several the least CATEGORY"

    private static int[] seated(int[] row, int n) {
        int[] seats = new int[64];
        for (int i = 0; i < n; i++) {
            int best = 0;
            for (int c = 1; c < 64; c++) {
                if ((long) row[c] * (seats[best] + 1) > (long) row[best] * (seats[c] + 1)) best = c;
            }
            seats[best]++;
        }
        return seats;
    }

    private static void seats(String sum) {
        for (int n : new int[] {0, 1, 2, 3, 7, 100, 199, 200}) {
            BranchSums x = of(sum);
            int[] want = seated(row(x), n);
            int dealt = 0;
            for (int c = 0; c < 64; c++) {
                int got = x.seats(0, n, c);
                dealt += got;
                due("28: seats of " + n + " for " + c + " of " + sum, got, want[c]);
            }
            due("28: all are dealt out", dealt, n);
            due("28: without entries none", x.seats(1, n, 0) + x.seats(1, n, 63), 0);
        }
        due("28: n 201", of(sum).seats(0, 201, 0), NONE);
        due("28: n -1", of(sum).seats(0, -1, 0), NONE);
    }

    private static void exactSeats() {
        // 1 by 1 is as much as 3 by 3: the least CATEGORY has the third one.
        due("28: a tie, the less ahead", of("0x1,1x3").seats(0, 3, 0), 1);
        due("28: a tie, the greater ahead", of("0x3,1x1").seats(0, 3, 0), 3);
        due("28: then the other", of("0x3,1x1").seats(0, 4, 1), 1);
        due("28: just more", of("0x3333,1x9998").seats(0, 3, 0), 1);
        due("28: just less", of("0x3333,1x9999").seats(0, 3, 0), 1);
        due("28: not as much", of("0x3332,1x9999").seats(0, 3, 0), 0);
        due("28: the first one", of("31x5,32x5").seats(0, 1, 31) * 10 + of("31x5,32x5").seats(0, 1, 32), 10);
    }

    // ---- 29: "what is lacking of 100 goes, one each, to those with the greatest rests, of several the least"

    private static int[] percents(int[] row) {
        int[] shares = new int[64];
        boolean[] has = new boolean[64];
        int lacking = 100;
        for (int c = 0; c < 64; c++) {
            shares[c] = 100 * row[c] / all(row);
            lacking -= shares[c];
        }
        for (; lacking > 0; lacking--) {
            int best = NONE;
            for (int c = 0; c < 64; c++) {
                if (!has[c] && (best == NONE || 100 * row[c] % all(row) > 100 * row[best] % all(row))) best = c;
            }
            shares[best]++;
            has[best] = true;
        }
        return shares;
    }

    private static void percents(String sum) {
        BranchSums x = of(sum);
        int[] want = percents(row(x));
        int together = 0;
        for (int c = 0; c < 64; c++) {
            due("29: percent of " + c + " of " + sum, x.percent(0, c), want[c]);
            together += x.percent(0, c);
            due("29: without entries", x.percent(1, c), 0);
        }
        due("29: all together", together, 100);
        due("29: 64", x.percent(0, 64), NONE);
        due("29: -1", x.percent(0, -1), NONE);
        due("29: 64 without entries", x.percent(1, 64) + x.percent(1, -1), 2 * NONE);
    }

    private static void tiesOfRests() {
        due("29: a tie of two", of("0x199,1x1").percent(0, 0) * 1000 + of("0x199,1x1").percent(0, 1), 100000);
        due("29: a tie of two", of("0x1,1x199").percent(0, 0) * 1000 + of("0x1,1x199").percent(0, 1), 1099);
        BranchSums x = of("5x1,6x1,7x1");
        due("29: a tie of three", x.percent(0, 5) * 10000 + x.percent(0, 6) * 100 + x.percent(0, 7), 343333);
        x = of(allCategories(1));
        for (int c = 0; c < 64; c++) due("29: of 64, " + c, x.percent(0, c), c < 36 ? 2 : 1);
    }

    // ---- 30: QUANTILE p (1 .. 100), "p of a hundred of all at least"; 31: FEW p (1 .. 100)

    private static void quantiles(String sum) {
        BranchSums x = of(sum);
        int[] row = row(x);
        int[] numbers = new int[64];
        for (int i = 0; i < 64; i++) numbers[i] = x.leader(0, i, 1);
        for (int p = 1; p <= 100; p++) {
            int found = 0;
            int c = -1;
            while (100 * found < p * all(row)) found += row[++c];
            due("30: quantile " + p + " of " + sum, x.quantile(0, p), c);
            int led = 0;
            int few = 0;
            while (100 * led < p * all(row)) led += numbers[few++];
            due("31: few " + p + " of " + sum, x.few(0, p), few);
        }
        for (int p : new int[] {0, 101, -1}) due("30, 31: p " + p, x.quantile(0, p) + x.few(0, p), 2 * NONE);
        for (int p : new int[] {0, 1, 100, 101}) due("30, 31: without entries", x.quantile(1, p) + x.few(1, p), 2 * NONE);
        due("30, 31: none such", x.quantile(2, 1) + x.few(2, 1), 2 * NONE);
    }

    private static void justAtLeast() {
        BranchSums x = of("0x1,1x98,63x1");
        int[] p = {1, 2, 99, 100};
        int[] quantiles = {0, 1, 1, 63};
        int[] few = {1, 1, 2, 3};
        for (int i = 0; i < 4; i++) {
            due("30: quantile " + p[i], x.quantile(0, p[i]), quantiles[i]);
            due("31: few " + p[i], x.few(0, p[i]), few[i]);
        }
        due("31: 98 at least", x.few(0, 98), 1);
        due("31: all of 64", of(allCategories(1)).few(0, 100), 64);
        due("30: all of 64", of(allCategories(1)).quantile(0, 100), 63);
    }

    // ---- 32: RUNS; "i NONE - 1: the longest (of several the first), i NONE - 2: the one with the most in it"

    private static void runs(String entries, int count, int longest, int most, int... firstsAndLasts) {
        BranchSums x = of(entries);
        String call = "32: " + entries;
        for (int w : new int[] {-1, 0, 2, 3, 99}) due(call + ", how many", x.run(0, NONE, w), count);
        for (int i = 0; i < count; i++) {
            int first = firstsAndLasts[2 * i];
            int last = firstsAndLasts[2 * i + 1];
            due(call + ", first of " + i, x.run(0, i, 0), first);
            due(call + ", last of " + i, x.run(0, i, 1), last);
            due(call + ", all in " + i, x.run(0, i, 2), x.less(0, last + 1) - x.less(0, first));
            due(call + ", what 3, -1", x.run(0, i, 3) + x.run(0, i, -1), 2 * NONE);
        }
        for (int w = 0; w < 3; w++) {
            due(call + ", the longest", x.run(0, NONE - 1, w), x.run(0, longest, w));
            due(call + ", the one with the most", x.run(0, NONE - 2, w), x.run(0, most, w));
            due(call + ", i " + count, x.run(0, count, w), NONE);
            due(call + ", i NONE - 3", x.run(0, NONE - 3, w), NONE);
        }
        due(call + ", what 3, -1", x.run(0, NONE - 1, 3) + x.run(0, NONE - 2, -1), 2 * NONE);
    }

    private static void runsOfEachKind() {
        runs("0x1", 1, 0, 0, 0, 0);
        runs("63x1", 1, 0, 0, 63, 63);
        runs("0x1,63x1", 2, 0, 0, 0, 0, 63, 63);
        runs("0x1,63x2", 2, 0, 1, 0, 0, 63, 63);
        runs("0x1,1x1,62x1,63x1", 2, 0, 0, 0, 1, 62, 63);
        runs("0x1,62x1,63x1", 2, 1, 1, 0, 0, 62, 63);
        runs("0x3,62x1,63x1", 2, 1, 0, 0, 0, 62, 63);
        runs("0x2,62x1,63x1", 2, 1, 0, 0, 0, 62, 63);
        runs("30x1,31x1,32x1,34x3,36x1,37x1,38x1", 3, 0, 0, 30, 32, 34, 34, 36, 38);
        runs("30x1,31x1,34x9,36x1,37x1,38x1", 3, 2, 1, 30, 31, 34, 34, 36, 38);
        runs(allCategories(1), 1, 0, 0, 0, 63);
        StringBuilder s = new StringBuilder("0x1");
        int[] ends = new int[64];
        for (int i = 1; i < 32; i++) {
            s.append(",").append(2 * i).append("x1");
            ends[2 * i] = 2 * i;
            ends[2 * i + 1] = 2 * i;
        }
        runs(s.toString(), 32, 0, 0, ends);
        BranchSums x = of("5x1");
        due("32: without entries", x.run(1, NONE, 0), 0);
        for (int i = NONE - 3; i < 2; i++) {
            if (i != NONE) due("32: none of them, " + i, x.run(1, i, 0), NONE);
            due("32: none such", x.run(2, i, 0), NONE);
        }
    }

    // ---- 34: REPORT: "each LEADER (5 at most) ... if there are more, a blank and "+" and how many more"

    private static void reports() {
        String[] sums = {"5x1", "5x1,6x2", "5x1,6x2,7x3", "5x1,6x2,7x3,8x4", "5x1,6x2,7x3,8x4,9x5", "5x1,6x2,7x3,8x4,9x5,10x6",
            "5x1,6x2,7x3,8x4,9x5,10x6,11x7"};
        String[] want = {"0: 5x1", "0: 6x2 5x1", "0: 7x3 6x2 5x1", "0: 8x4 7x3 6x2 5x1", "0: 9x5 8x4 7x3 6x2 5x1",
            "0: 10x6 9x5 8x4 7x3 6x2 +1", "0: 11x7 10x6 9x5 8x4 7x3 +2"};
        for (int i = 0; i < sums.length; i++) Check.report(of(sums[i]), 0, want[i]);
        Check.report(of("5x1"), 1, "1:");
        Check.report(of("0x10,1x9,9x99,10x100,63x1000"), 0, "0: 63x1000 10x100 9x99 0x10 1x9");
        Check.report(of("0x9999,63x9999"), 0, "0: 0x9999 63x9999");
        Check.report(of(allCategories(1)), 0, "0: 0x1 1x1 2x1 3x1 4x1 +59");
        for (int u : new int[] {1, 9, 10, 19, 20, 23}) {
            BranchSums x = new BranchSums();
            x.comes(u, 0);
            Check.report(x, u, u + ":");
        }
        BranchSums x = new BranchSums();
        x.add(0, 7, 9999);
        x.comes(1, 0);
        x.add(1, 7, 1);
        x.roll(0);
        Check.report(x, 0, "0: 7x10000");
        x.add(0, 7, -1);
        x.roll(0);
        Check.report(x, 0, "0: 7x9999");
    }

    // ---- 35: "Sign i of the chosen REPORT (as it was then), as a byte. NONE if there is none such"

    private static void signs() {
        BranchSums x = of("5x1");
        due("35: none is chosen yet", x.sign(0), NONE);
        due("34: signs", x.report(0), 6);
        String want = "0: 5x1";
        for (int i = 0; i < 6; i++) due("35: sign " + i, x.sign(i), want.charAt(i));
        due("35: sign 6", x.sign(6), NONE);
        due("35: sign -1", x.sign(-1), NONE);
        x.add(0, 5, 8);
        x.roll(0);
        x.goes(1);
        Check.read(x, "0");
        due("35: as it was then", x.sign(5), '1');
        due("34: none such", x.report(1), NONE);
        for (int i = -1; i < 7; i++) due("35: none is chosen", x.sign(i), NONE);
        x.undo();
        x.undo();
        due("34: a shorter one", x.report(1), 2);
        due("35: its last sign", x.sign(1), ':');
        due("35: none behind it", x.sign(2), NONE);
    }

    // ---- 42: "DRAWN n (1 .. 50)": "n entries (all, if there are fewer)"; "ints, which wrap"

    private static int stateBehind(int state, int draws) {
        long s = state;
        for (int i = 0; i < draws; i++) s = 1664525L * s + 1013904223L & 0xffffffffL;
        return (int) s;
    }

    private static void howManyAreDrawn() {
        for (int entries : new int[] {0, 1, 2, 49, 50, 51, 100}) {
            for (int n : new int[] {1, 2, 49, 50}) {
                BranchSums x = entries > 0 ? Check.rolled("0;0:63x" + entries) : new BranchSums();
                int draws = Math.min(entries, n);
                due("42: drawn " + n + " of " + entries, x.drawn(0, n, 63), draws);
                due("42: state goes on", x.state(7), stateBehind(0, draws));
                due("42: none of another", x.drawn(0, n, 62), 0);
                due("42: state goes on", x.state(7), stateBehind(7, draws));
                due("42: n 0, 51, -1", x.drawn(0, 0, 63) + x.drawn(0, 51, 63) + x.drawn(0, -1, 63), 3 * NONE);
                due("42: category -1, 64", x.drawn(0, n, -1) + x.drawn(0, n, 64), 2 * NONE);
                due("42: none such", x.drawn(1, n, 63), NONE);
                due("42: no draw", x.state(0), 7);
            }
        }
    }

    /** One entry of each CATEGORY, so that the one drawn is the rank: the highest 24 bits modulo 64, and modulo 63 then. */
    private static void ranksOfDraws() {
        BranchSums x = of(allCategories(1));
        int calls = 0;
        for (int state : Sight.outside(0, -1)) {
            if (calls++ % 60 == 0) x = of(allCategories(1));
            int first = (int) ((stateBehind(state, 1) & 0xffffffffL) / 256 % 64);
            int second = (int) ((stateBehind(state, 2) & 0xffffffffL) / 256 % 63);
            if (second >= first) second++;
            x.state(state);
            due("42: the first of " + state, x.drawn(0, 1, first), 1);
            due("42: state behind " + state, x.state(state), stateBehind(state, 1));
            due("42: the second of " + state, x.drawn(0, 2, second), 1);
            due("42: state behind both", x.state(state), stateBehind(state, 2));
        }
    }

    private static void allAreDrawn() {
        BranchSums x = of("0x3,5x1,31x9,32x20,62x7,63x10");
        x.state(-77);
        for (int c : new int[] {0, 5, 31, 32, 62, 63, 1}) due("42: all fifty, " + c, x.drawn(0, 50, c), x.of(0, c, 1));
        due("42: the sum stays", x.unit(0, 8), 50);
        due("42: all draws", x.state(0), stateBehind(-77, 350));
    }

    // ---- "SUMS are as they were rolled up the latest time": not OWN, not BRANCH SUM, and of any UNIT

    /** A UNIT whose SUM is as told, while its OWN and its BRANCH SUM are others by now. */
    private static BranchSums staleWith(int unit, String sum) {
        BranchSums x = new BranchSums();
        Check.read(x, "0(1 2(" + unit + "(3))4);0:33x8;2:33x9;3:" + sum + ";4:20x6");
        x.roll(unit);
        x.add(unit, 7, 3000);
        x.add(unit, 0, 2000);
        x.add(unit, 62, 1);
        x.add(3, 31, 4000);
        x.add(3, 61, 3);
        return x;
    }

    /** What UNIT u of x tells is what the HEAD of y does. */
    private static void sameOfBoth(String call, BranchSums x, int u, BranchSums y) {
        int all = y.unit(0, 8);
        for (int r : new int[] {0, all / 3, all - 1, all}) due("22: " + call, x.ranked(u, r), y.ranked(0, r));
        for (int c : new int[] {1, 7, 32, 63, 64}) due("23: " + call, x.less(u, c), y.less(0, c));
        for (int i : new int[] {0, 1, 2, 6}) {
            due("24: " + call, x.leader(u, i, 0), y.leader(0, i, 0));
            due("24: " + call + ", its number", x.leader(u, i, 1), y.leader(0, i, 1));
        }
        due("25: " + call, x.median(u), y.median(0));
        for (int p : new int[] {0, 1, 33, 49, 99}) due("26: " + call, x.heavy(u, p), y.heavy(0, p));
        due("27: " + call, x.squares(u), y.squares(0));
        for (int c : new int[] {0, 1, 7, 31, 62, 63}) {
            due("28: " + call, x.seats(u, 100, c), y.seats(0, 100, c));
            due("29: " + call, x.percent(u, c), y.percent(0, c));
            due("42: " + call, x.drawn(u, 9, c), y.drawn(0, 9, c));
        }
        for (int p : new int[] {1, 30, 50, 99, 100}) {
            due("30: " + call, x.quantile(u, p), y.quantile(0, p));
            due("31: " + call, x.few(u, p), y.few(0, p));
        }
        for (int i = NONE - 2; i < 3; i++) {
            for (int w = 0; w < 3; w++) due("32: " + call + ", " + i, x.run(u, i, w), y.run(0, i, w));
        }
        String report = Check.report(y, 0).substring(1);
        Check.report(x, u, u + report);
    }

    private static void ofTheSumAlone() {
        for (String sum : SUMS) {
            for (int u : new int[] {9, 23}) {
                BranchSums x = staleWith(u, sum);
                sameOfBoth("of " + u + " with " + sum, x, u, of(sum));
                due("OWN is another one", x.of(u, 7, 0), 3000);
                due("BRANCH SUM, too", x.unit(u, 5), 0);
            }
        }
    }

    public static void main(String[] args) {
        ofTheSumAlone();
        for (String sum : SUMS) {
            ranksAtTheEdges(sum);
            leaders(sum);
            heavy(sum);
            seats(sum);
            percents(sum);
            quantiles(sum);
        }
        leaders(allCategories(1));
        ranksAtTheEdges(allCategories(2));
        seats(allCategories(9));
        percents(allCategories(3));
        medians();
        justHeavy();
        squares();
        exactSeats();
        tiesOfRests();
        justAtLeast();
        runsOfEachKind();
        reports();
        signs();
        howManyAreDrawn();
        ranksOfDraws();
        allAreDrawn();
        Check.close("EdgesOfSumTest");
    }
}

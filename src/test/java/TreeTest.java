/** Promises 17 to 21, 40, 41, 49 and 52: the tree, chains, homes and what is seen of all. */
public final class TreeTest {
    private static final int NONE = BranchSums.NONE;
    private static final int MIN = Integer.MIN_VALUE;
    private static final int MAX = Integer.MAX_VALUE;

    private static void due(String call, long got, long want) {
        Check.due(call, got, want);
    }

    private static BranchSums sample() {
        BranchSums x = Check.rolled("0(1(3)2);1:9x3;3:5x10,9x4;2:5x7");
        x.add(3, 40, 2);
        x.comes(6, 3);
        return x;
    }

    private static void units(BranchSums x, int unit, int... want) {
        for (int i = 0; i < want.length; i++) due("17: unit(" + unit + ", " + i + ")", x.unit(unit, i), want[i]);
    }

    private static void promise17() {
        BranchSums x = sample();
        units(x, 0, NONE, 0, 2, 5, 1, 0, 0, 0, 24, 11, 2, 26, NONE);
        units(x, 1, 0, 1, 1, 3, 1, 0, 3, 7, 17, 11, 2, 19, NONE);
        units(x, 2, 0, 1, 0, 1, 0, 1, 7, 7, 7, 7, 1, 7, NONE);
        units(x, 3, 1, 2, 1, 2, 1, 0, 16, 17, 14, 11, 2, 16, NONE);
        units(x, 6, 3, 3, 0, 1, 0, 1, 0, 0, 0, 0, 0, 0, NONE);
        x.add(3, 40, -2);
        due("17: stale, and right all the same", x.unit(3, 4) * 10 + x.unit(3, 5), 11);
        due("17: what -1", x.unit(0, -1), NONE);
        due("17: what least", x.unit(0, MIN), NONE);
        due("17: what greatest", x.unit(0, MAX), NONE);
        due("17: none such", x.unit(4, 1), NONE);
        due("17: -1", x.unit(-1, 1), NONE);
        due("17: 24", x.unit(24, 1), NONE);
        x.recode(9, 5);
        x.recode(5, 4);
        due("17: as much, elsewhere", x.unit(0, 5), 0);
    }

    private static void promises18to20() {
        BranchSums x = sample();
        x.comes(23, 0);
        int[] below = {NONE, 1, 2, 23, NONE};
        for (int i = 0; i < below.length; i++) due("18: below(0, " + (i - 1) + ")", x.below(0, i - 1), below[i]);
        due("18: below(3, 0)", x.below(3, 0), 6);
        due("18: below(6, 0)", x.below(6, 0), NONE);
        due("18: greatest", x.below(0, MAX), NONE);
        due("18: none such", x.below(4, 0) + x.below(-1, 0) + x.below(24, 0), 3 * NONE);
        due("18: below none", x.below(-2, 0), NONE);
        int[] above = {NONE, 6, 3, 1, 0, NONE};
        for (int i = 0; i < above.length; i++) due("19: above(6, " + (i - 1) + ")", x.above(6, i - 1), above[i]);
        due("19: greatest", x.above(6, MAX), NONE);
        due("19: none such", x.above(4, 0) + x.above(-1, 0) + x.above(24, 0), 3 * NONE);
        due("20: both(6, 2)", x.both(6, 2), 0);
        due("20: both(6, 1)", x.both(6, 1), 1);
        due("20: both(1, 6)", x.both(1, 6), 1);
        due("20: both(6, 6)", x.both(6, 6), 6);
        x.comes(7, 1);
        due("20: both(7, 6)", x.both(7, 6), 1);
        due("20: none such", x.both(4, 0) + x.both(0, 4) + x.both(-1, 24), 3 * NONE);
    }

    private static void deepest() {
        BranchSums x = new BranchSums();
        for (int u = 1; u <= 12; u++) x.comes(u, u - 1);
        due("19: above(12, 12)", x.above(12, 12), 0);
        due("19: above(12, 13)", x.above(12, 13), NONE);
        due("20: both(12, 0)", x.both(12, 0), 0);
        due("41: hops(0, 12)", x.hops(0, 12), 13);
        due("52: look(4)", x.look(4), 12);
    }

    private static void promise21() {
        BranchSums x = sample();
        due("21: own", x.of(1, 9, 0), 3);
        due("21: sum", x.of(1, 9, 1), 7);
        due("21: branch sum", x.of(1, 9, 2), 7);
        due("21: own of 40", x.of(3, 40, 0), 2);
        due("21: sum of 40", x.of(1, 40, 1), 0);
        due("21: branch sum of 40", x.of(1, 40, 2), 2);
        due("21: of another branch", x.of(2, 40, 2), 0);
        due("21: what 3", x.of(1, 9, 3), NONE);
        due("21: what -1", x.of(1, 9, -1), NONE);
        due("21: category 64", x.of(1, 64, 0), NONE);
        due("21: category -1", x.of(1, -1, 0), NONE);
        due("21: none such", x.of(4, 0, 0) + x.of(-1, 0, 1) + x.of(24, 0, 2), 3 * NONE);
    }

    private static void promises40and41() {
        BranchSums x = new BranchSums();
        Check.read(x, "0(1(3(7)4)2(5));0:5x1;1:5x2;2:5x4;3:5x8,9x1000;4:5x16;5:5x32;7:5x128");
        due("40: chain(7, 4, 5)", x.chain(7, 4, 5), 154);
        due("40: of all", x.chain(7, 4, NONE), 1154);
        due("40: chain(4, 7, 5)", x.chain(4, 7, 5), 154);
        due("40: chain(7, 5, 5)", x.chain(7, 5, 5), 175);
        due("40: chain(3, 3, 5)", x.chain(3, 3, 5), 8);
        due("40: chain(1, 7, 5)", x.chain(1, 7, 5), 138);
        due("40: category 64", x.chain(1, 7, 64), NONE);
        due("40: category -2", x.chain(1, 7, -2), NONE);
        due("40: none such", x.chain(6, 7, 5) + x.chain(7, 6, 5) + x.chain(-1, 24, 5), 3 * NONE);
        due("41: hops(7, 4)", x.hops(7, 4), 4);
        due("41: hops(5, 7)", x.hops(5, 7), 6);
        due("41: hops(1, 7)", x.hops(1, 7), 3);
        due("41: hops(7, 7)", x.hops(7, 7), 1);
        due("41: none such", x.hops(6, 7) + x.hops(7, 6) + x.hops(-1, 24), 3 * NONE);
    }

    private static void promise49() {
        BranchSums x = new BranchSums();
        Check.read(x, "0(1(3)2);0:7x1;1:9x3;2:5x9;3:5x10");
        due("49: home(3)", x.home(3), 2);
        due("49: not of sums", x.look(8), 0);
        due("49: the head", x.home(0), NONE);
        due("49: none such", x.home(4) + x.home(-1) + x.home(24), 3 * NONE);
        x.add(2, 5, -9);
        x.add(1, 9, -2);
        // 0 without it: 7x1, 9x1; 1 without it: 9x1; 2: nothing.
        due("49: nothing is the nearest", x.home(3), 2);
        x.add(1, 5, 2);
        due("49: where it is", x.home(3), 1);
        Check.read(x, "0(2(4)1 3);4:5x10;1:5x9;3:5x11");
        due("49: of several the least", x.home(4), 1);
        due("49: not into its branch", x.home(2), 1);
        Check.read(x, "0(1(3)2);0:5x4;1:5x6;3:5x4;2:5x5");
        due("49: without what is of its branch", x.home(1), 0);
        Check.read(x, "0(1 2);0:0x4;1:0x6;2:0x4");
        due("49: of the first category without it", x.home(1), 0);
        Check.read(x, "0(7(9)23);0:0x5;7:0x2;9:0x4;23:0x1");
        due("49: of the first category", x.home(9), 7);
        due("49: behind gaps", x.home(23), 9);
    }

    private static void promise49Depth() {
        BranchSums x = new BranchSums();
        for (int u = 1; u <= 12; u++) x.comes(u, u - 1);
        x.comes(20, 0);
        x.comes(21, 20);
        x.add(20, 5, 7);
        x.add(12, 5, 7);
        x.add(9, 9, 8);
        x.add(11, 9, 1);
        due("49: none that would be too deep", x.home(20), 10);
        x.goes(21);
        due("49: the deepest that can be", x.home(20), 10);
        x.add(11, 9, 8);
        x.add(9, 9, -8);
        due("49: 11 has too much", x.home(20), 0);
        x.add(11, 9, -9);
        due("49: of several the least", x.home(20), 0);
        x.add(0, 3, 1);
        due("49: then 1", x.home(20), 1);
    }

    private static void promise52() {
        BranchSums x = sample();
        int[] want = {1 + 2 + 4 + 8 + 64, 1 + 2 + 8, 4 + 64, 5, 3, 4, 0, 26, 11 + 11 + 7 + 11, 61, 0, 0, 0};
        for (int i = 0; i < want.length; i++) due("52: look(" + i + ")", x.look(i), want[i]);
        due("52: look(13)", x.look(13), NONE);
        due("52: look(-1)", x.look(-1), NONE);
        due("52: look(least)", x.look(MIN), NONE);
        due("52: look(greatest)", x.look(MAX), NONE);
        BranchSums y = Check.rolled("0;0:0x3,63x4");
        due("52: of the head alone", y.look(7) * 10000 + y.look(8) * 100 + y.look(9), 71362);
        x.image(true);
        due("52: as in the image", x.look(12), 0);
        x.limit(2, 5, 5, 1);
        x.limit(2, 5, 6, 9);
        x.feed(0, 0, 0, 0, 0);
        due("52: limits", x.look(10) * 10 + x.look(11), 21);
        due("52: the tape", x.look(6), 20);
        x.goes(6);
        x.comes(23, 0);
        x.move(2, 1);
        due("52: other than in the image", x.look(12), 4 + 64 + (1 << 23));
        x.goes(23);
        x.comes(6, 1);
        due("52: there again elsewhere", x.look(12), 4 + 64);
        x.move(2, 0);
        x.move(6, 3);
        due("52: as it was", x.look(12), 0);
        x.add(3, 40, -2);
        due("52: stale ones that are right", x.look(2) * 10 + x.look(9), (1 + 2 + 4 + 8 + 64) * 10 + 62);
    }

    public static void main(String[] args) {
        promise17();
        promises18to20();
        deepest();
        promise21();
        promises40and41();
        promise49();
        promise49Depth();
        promise52();
        Check.close("TreeTest");
    }
}

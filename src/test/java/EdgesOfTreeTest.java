/** Promises 17 to 21, 40, 41, 49 and 52 at the bounds that they name. */
public final class EdgesOfTreeTest {
    private static final int NONE = BranchSums.NONE;

    private static void due(String call, long got, long want) {
        Check.due(call, got, want);
    }

    /** UNITS as a text tells them, nothing of it rolled up. */
    private static BranchSums told(String text) {
        BranchSums x = new BranchSums();
        due("the text " + text, Check.read(x, text) > 0 ? 1 : 0, 1);
        return x;
    }

    private static BranchSums stair(int depth) {
        BranchSums x = new BranchSums();
        for (int u = 1; u <= depth; u++) x.comes(u, u - 1);
        return x;
    }

    // ---- 17: what 0 .. 11; "NONE if there is none such, or another what"

    private static void unit(BranchSums x, int unit, int... want) {
        for (int w = 0; w < 12; w++) due("17: unit(" + unit + ", " + w + ")", x.unit(unit, w), want[w]);
        due("17: what -1", x.unit(unit, -1), NONE);
        due("17: what 12", x.unit(unit, 12), NONE);
    }

    private static void unitsOfEachKind() {
        BranchSums x = told("0(1(23)2);0:0x9999,63x9999;23:5x1");
        unit(x, 0, NONE, 0, 2, 4, 1, 0, 19998, 13, 0, 0, 0, 19999);
        unit(x, 1, 0, 1, 1, 2, 1, 0, 0, 0, 0, 0, 0, 1);
        unit(x, 2, 0, 1, 0, 1, 1, 1, 0, 0, 0, 0, 0, 0);
        unit(x, 23, 1, 2, 0, 1, 1, 0, 1, 7, 0, 0, 0, 1);
        x.roll(1);
        unit(x, 0, NONE, 0, 2, 4, 1, 0, 19998, 13, 0, 0, 0, 19999);
        unit(x, 1, 0, 1, 1, 2, 0, 1, 0, 0, 1, 7, 1, 1);
        unit(x, 23, 1, 2, 0, 1, 0, 1, 1, 7, 1, 7, 1, 1);
        x.roll(0);
        // 0, 5 and 63: 64; 32 twice; 16, 8 twice; 4, 2 and 1 thrice.
        unit(x, 0, NONE, 0, 2, 4, 0, 1, 19998, 13, 19999, 16, 3, 19999);
        for (int u : new int[] {-1, 3, 22, 24}) {
            for (int w = -1; w <= 12; w++) due("17: none such, " + u, x.unit(u, w), NONE);
        }
    }

    /** "whether its SUM is its BRANCH SUM": of each CATEGORY, not of all together. */
    private static void rightSums() {
        for (int c : new int[] {0, 63}) {
            BranchSums x = Check.rolled("0;0:31x4");
            due("17: right", x.unit(0, 5), 1);
            x.add(0, c, 1);
            x.add(0, 31, -1);
            due("17: as much of others", x.unit(0, 5), 0);
            due("52: none is right", x.look(2), 0);
            x.add(0, c, -1);
            x.add(0, 31, 1);
            due("17: right, stale all the same", x.unit(0, 5) * 10 + x.unit(0, 4), 11);
            due("52: it is right", x.look(2), 1);
        }
    }

    /** The greatest that there may be: all 24 UNITS with 9999 each. */
    private static void theGreatest() {
        BranchSums x = new BranchSums();
        for (int u = 1; u < 24; u++) x.comes(u, u / 2);
        for (int u = 0; u < 24; u++) {
            for (int c = 60; c < 64; c++) x.add(u, c, 9999);
        }
        due("17: all in its branch sum", x.unit(0, 11), 24 * 4 * 9999);
        due("52: all own", x.look(7), 24 * 4 * 9999);
        x.roll(0);
        due("17: all in its sum", x.unit(0, 8), 24 * 4 * 9999);
        due("21: sum", x.of(0, 63, 1), 24 * 9999);
        due("21: branch sum", x.of(0, 60, 2), 24 * 9999);
        due("22: the last rank", x.ranked(0, 24 * 4 * 9999 - 1), 63);
        due("22: none behind it", x.ranked(0, 24 * 4 * 9999), NONE);
        due("22: the first of 61", x.ranked(0, 24 * 9999), 61);
        due("22: the last of 60", x.ranked(0, 24 * 9999 - 1), 60);
        due("23: less", x.less(0, 64), 24 * 4 * 9999);
        due("27: squares", x.squares(0), 4L * (24 * 9999) * (24 * 9999));
        due("29: percent", x.percent(0, 60), 25);
        due("28: seats", x.seats(0, 199, 63) * 100 + x.seats(0, 200, 63), 4950);
        due("40: chain of all", x.chain(0, 0, NONE), 4 * 9999);
        due("43: unlike", x.unlike(0, 23), 23 * 4 * 9999);
        due("46: just so many", x.where(60, 24 * 9999), 0);
        due("46: one more", x.where(60, 24 * 9999 + 1), NONE);
    }

    // ---- 18: "The i-th UNIT right below one (by numbers)"

    private static void belowEach() {
        for (int count = 0; count <= 23; count++) {
            BranchSums x = new BranchSums();
            // They come from the last one on, but are told by numbers.
            for (int u = 23; u > 23 - count; u--) x.comes(u, 0);
            for (int i = 0; i < count; i++) due("18: " + i + " of " + count, x.below(0, i), 24 - count + i);
            due("18: behind the last of " + count, x.below(0, count), NONE);
            due("18: ahead of the first", x.below(0, -1), NONE);
            due("17: how many", x.unit(0, 2), count);
        }
        BranchSums x = told("0(9(1 20)5(3)7)");
        int[] want = {5, 7, 9, NONE};
        for (int i = 0; i < 4; i++) due("18: of the head", x.below(0, i), want[i]);
        due("18: the first of 9", x.below(9, 0), 1);
        due("18: the second of 9", x.below(9, 1), 20);
        due("18: the third of 9", x.below(9, 2), NONE);
        due("18: none below 1", x.below(1, 0), NONE);
    }

    // ---- 19: "The k-th above a UNIT (0: itself)"

    private static void aboveEach() {
        BranchSums x = stair(12);
        for (int u = 0; u <= 12; u++) {
            for (int k = 0; k <= u; k++) due("19: above(" + u + ", " + k + ")", x.above(u, k), u - k);
            due("19: above the head", x.above(u, u + 1), NONE);
            due("19: k -1", x.above(u, -1), NONE);
        }
        due("19: none such", x.above(13, 0), NONE);
        // The same stair of the last ones: how deep they are tells, not their numbers.
        x = new BranchSums();
        for (int u = 23; u >= 12; u--) x.comes(u, u == 23 ? 0 : u + 1);
        for (int u = 12; u <= 23; u++) {
            for (int k = 0; k < 24 - u; k++) due("19: above(" + u + ", " + k + ")", x.above(u, k), u + k);
            due("19: the head above " + u, x.above(u, 24 - u), 0);
            due("19: none above it", x.above(u, 25 - u), NONE);
        }
    }

    // ---- 20: "The deepest UNIT in whose BRANCH both are"; 40, 41: a CHAIN, both with

    private static void bothOfAStair() {
        BranchSums x = stair(12);
        for (int u = 0; u <= 12; u++) {
            for (int v = 0; v <= 12; v++) {
                due("20: both(" + u + ", " + v + ")", x.both(u, v), Math.min(u, v));
                due("41: hops(" + u + ", " + v + ")", x.hops(u, v), Math.abs(u - v) + 1);
            }
        }
    }

    /** Two stairs of depth 11 and 12 below the head: the longest CHAIN that there may be. */
    private static void longestChain() {
        BranchSums x = stair(12);
        x.comes(13, 0);
        for (int u = 14; u <= 23; u++) x.comes(u, u - 1);
        for (int u = 0; u < 24; u++) x.add(u, 9, u + 1);
        due("20: both(12, 23)", x.both(12, 23), 0);
        due("41: hops(12, 23)", x.hops(12, 23), 24);
        due("40: chain(12, 23, 9)", x.chain(12, 23, 9), 300);
        due("40: of all", x.chain(23, 12, NONE), 300);
        due("40: of 8", x.chain(12, 23, 8), 0);
        due("40: of 10", x.chain(12, 23, 10), 0);
        due("40: of one", x.chain(12, 12, 9), 13);
        due("40: of two", x.chain(12, 11, 9), 25);
        due("40: with the head", x.chain(1, 13, 9), 2 + 1 + 14);
        due("40: the head with", x.chain(0, 2, 9), 1 + 2 + 3);
        due("40: without the head", x.chain(1, 3, 9), 2 + 3 + 4);
        for (int c : new int[] {-2, 64, Sight.MIN, Sight.MAX}) due("40: category " + c, x.chain(1, 3, c), NONE);
    }

    private static void categoriesOfChains() {
        BranchSums x = told("0(1 2);1:0x3,63x4;0:0x30,63x40;2:0x300,63x400");
        due("40: category 0", x.chain(1, 2, 0), 333);
        due("40: category 63", x.chain(2, 1, 63), 444);
        due("40: of all", x.chain(1, 2, NONE), 777);
        due("40: none such", x.chain(1, 3, 0) + x.chain(3, 1, 0) + x.chain(3, 3, NONE), 3 * NONE);
        due("20: none such", x.both(1, 3) + x.both(3, 1) + x.both(3, 3), 3 * NONE);
        due("41: none such", x.hops(1, 3) + x.hops(3, 1) + x.hops(3, 3), 3 * NONE);
    }

    // ---- 21: "OWN (what 0), SUM (1), BRANCH SUM (2) of a UNIT, of a CATEGORY"

    private static void ofEach() {
        BranchSums x = Check.rolled("0(1);0:0x1,63x2;1:0x10,63x20");
        x.add(1, 0, 100);
        x.add(1, 63, 200);
        int[][] want = {{1, 2}, {11, 22}, {111, 222}};
        for (int w = 0; w < 3; w++) {
            due("21: of(0, 0, " + w + ")", x.of(0, 0, w), want[w][0]);
            due("21: of(0, 63, " + w + ")", x.of(0, 63, w), want[w][1]);
            due("21: of(0, 1, " + w + ")", x.of(0, 1, w) + x.of(0, 62, w), 0);
            due("21: category -1", x.of(0, -1, w), NONE);
            due("21: category 64", x.of(0, 64, w), NONE);
            due("21: unit 2", x.of(2, 0, w), NONE);
        }
        due("21: what -1", x.of(0, 0, -1), NONE);
        due("21: what 3", x.of(0, 0, 3), NONE);
    }

    /** "OWN of all in its BRANCH", from each DEPTH to each above it, down to the twelfth. */
    private static void branchSumsOfAStair() {
        BranchSums x = stair(12);
        for (int u = 0; u <= 12; u++) x.add(u, 5 * u, u + 1);
        for (int u = 0; u <= 12; u++) {
            for (int v = 0; v <= 12; v++) due("21: branch sum of " + u + ", category " + 5 * v, x.of(u, 5 * v, 2), v < u ? 0 : v + 1);
            due("17: all in the branch sum of " + u, x.unit(u, 11), 91 - u * (u + 1) / 2);
            due("17: not right yet", x.unit(u, 5), 0);
        }
        due("52: none is right yet", x.look(2), 0);
        x.roll(0);
        due("52: all are right", x.look(2), (1 << 13) - 1);
        for (int u = 0; u <= 12; u++) due("17: right", x.unit(u, 5), 1);
        x.add(12, 63, 1);
        due("52: the twelfth depth is of each", x.look(2), 0);
        for (int u = 0; u <= 12; u++) due("17: right no more", x.unit(u, 5), 0);
    }

    // ---- 49: "of all to which it can be MOVED, and the one it is below ... of several the least"

    private static int apart(BranchSums x, int unit, int home) {
        int apart = 0;
        boolean within = x.both(unit, home) == home;
        for (int c : new int[] {0, 5, 7, 9, 63}) {
            int own = x.of(unit, c, 2);
            apart += Math.abs(x.of(home, c, 2) - (within ? own : 0) - own);
        }
        return apart;
    }

    private static int bestHome(Sight.Maker maker, int unit) {
        int best = NONE;
        for (int u = 0; u < 24; u++) {
            BranchSums x = maker.make();
            if (x.unit(unit, 0) != u && x.move(unit, u) == NONE) continue;
            x = maker.make();
            if (best == NONE || apart(x, unit, u) < apart(x, unit, best)) best = u;
        }
        return best;
    }

    private static void homes() {
        String[] texts = {
            "0", "0(1)", "0(1 2)", "0(1 2);1:5x1", "0(1 2);2:5x1", "0(1(3)2);1:9x3;3:5x10;2:5x9", "0(23(22)21);0:0x9;23:63x4;22:63x2;21:0x9,63x3",
            "0(1(2(3(4(5(6))))));0:5x1;1:5x2;2:5x4;3:5x8;4:5x16;5:5x32;6:5x64", "0(1(2(3)));1:7x5;2:7x5;3:7x5;0:7x5",
            "0(1 2 3 4 5 6);1:0x5;2:5x5;3:7x5;4:0x6;5:9x6;6:63x6", "0(1(4 5)2(6 7)3);4:5x3;5:7x3;6:5x4;7:9x4;3:5x4",
            "0(1(2(3(4(5(6(7(8(9(10(11))))))))))20(21));20:5x3;21:7x2;11:5x3,7x2;10:9x9;9:5x1",
            "0(1(2(3(4(5(6(7(8(9(10(11))))))))))20(21(22)));20:5x3;21:7x2;11:5x3,7x2;10:9x9;9:5x1"
        };
        for (String text : texts) {
            Sight.Maker maker = () -> told(text);
            for (int u = 1; u < 24; u++) {
                BranchSums x = maker.make();
                due("49: home(" + u + ") of " + text, x.home(u), x.unit(u, 1) == NONE ? NONE : bestHome(maker, u));
            }
            due("49: the head", maker.make().home(0), NONE);
        }
    }

    /** The one it is below is one of them even if it can't be MOVED anywhere. */
    private static void homeWhereItIs() {
        BranchSums x = told("0(1(2));1:5x1;2:5x9");
        due("49: where it is, or the head", x.home(2), 0);
        due("49: just where it is", x.home(1), 0);
        x = stair(12);
        x.add(12, 5, 3);
        x.add(11, 5, 3);
        due("49: of several the least", x.home(12), 0);
        x.add(10, 9, 1);
        due("49: where it is", x.home(12), 11);
        due("49: not sums, branch sums", x.look(8), 0);
        // What is of the twelfth depth is of each branch above it: 2 is as 1, the head has four more.
        x = stair(12);
        x.comes(13, 0);
        x.add(12, 63, 7);
        x.add(0, 63, 4);
        x.add(13, 63, 6);
        due("49: of the twelfth depth, too", x.home(13), 1);
        x.add(12, 63, -2);
        x.add(0, 63, 2);
        due("49: the head, without what is of its branch", x.home(13), 1);
        x.add(0, 63, -5);
        due("49: the head with six", x.home(13), 0);
    }

    // ---- 52: what 0 .. 12; "NONE for another what"

    private static void looks(String when, BranchSums x, int... want) {
        for (int w = 0; w < 13; w++) due("52: " + when + ", look(" + w + ")", x.look(w), want[w]);
        due("52: " + when + ", look(13)", x.look(13), NONE);
        due("52: " + when + ", look(-1)", x.look(-1), NONE);
    }

    private static void eachLook() {
        BranchSums x = new BranchSums();
        looks("new", x, 1, 0, 1, 1, 0, 0, 0, 0, 0, 64, 0, 0, 0);
        int last = 1 << 23;
        x.comes(23, 0);
        looks("23 came", x, 1 + last, 0, 1 + last, 2, 1, 1, 0, 0, 0, 64, 0, 0, 0);
        x.add(23, 63, 5);
        looks("added", x, 1 + last, 1 + last, 0, 2, 1, 2, 0, 5, 0, 63, 0, 0, 0);
        x.roll(23);
        looks("one rolled up", x, 1 + last, 1, last, 2, 1, 3, 0, 5, 7, 63, 0, 0, 0);
        x.limit(0, 0, 63, 4);
        x.limit(23, 0, 63, 4);
        looks("limits", x, 1 + last, 1, last, 2, 1, 3, 0, 5, 7, 63, 2, 1, 0);
        x.roll(0);
        looks("both rolled up", x, 1 + last, 0, 1 + last, 2, 1, 4, 0, 5, 14, 63, 2, 2, 0);
        x.image(true);
        x.feed(0, 0, 0, 0, 0);
        x.goes(23);
        looks("gone", x, 1, 1, 1, 1, 0, 5, 20, 5, 7, 63, 2, 1, last);
        x.add(0, 0, 1);
        looks("right no more", x, 1, 1, 0, 1, 0, 6, 20, 6, 7, 62, 2, 1, last);
        x.comes(1, 0);
        looks("in just one of both", x, 3, 1, 2, 2, 1, 7, 20, 6, 7, 62, 2, 1, 2 + last);
        x.comes(23, 1);
        looks("below another one", x, 3 + last, 1, 2 + last, 3, 2, 8, 20, 6, 7, 62, 2, 1, 2 + last);
        x.move(23, 0);
        looks("below the same", x, 3 + last, 3, 2 + last, 3, 1, 9, 20, 6, 7, 62, 2, 1, 2);
        x.image(false);
        looks("gone back", x, 1 + last, 0, 1 + last, 2, 1, 0, 20, 5, 14, 63, 2, 2, 0);
    }

    private static void greatestDepths() {
        for (int d = 0; d <= 12; d++) due("52: the greatest depth " + d, stair(d).look(4), d);
        due("52: of the deepest", told("0(20(1)2(19(18)3)4)").look(4), 3);
    }

    public static void main(String[] args) {
        unitsOfEachKind();
        rightSums();
        theGreatest();
        belowEach();
        aboveEach();
        bothOfAStair();
        longestChain();
        categoriesOfChains();
        ofEach();
        branchSumsOfAStair();
        homes();
        homeWhereItIs();
        eachLook();
        greatestDepths();
        Check.close("EdgesOfTreeTest");
    }
}

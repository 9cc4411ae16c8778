/** Promises 1 to 8, 16, 47, 48, 50 and 51: acts, what they cost, undone, in thought, the image. */
public final class ActsTest {
    private static final int NONE = BranchSums.NONE;
    private static final int MIN = Integer.MIN_VALUE;
    private static final int MAX = Integer.MAX_VALUE;

    private static void due(String call, long got, long want) {
        Check.due(call, got, want);
    }

    private static void due(String call, boolean got, boolean want) {
        Check.due(call, got, want);
    }

    private static void counts(String when, BranchSums x, int... want) {
        for (int i = 0; i < want.length; i++) due(when + " count(" + i + ")", x.count(i), want[i]);
    }

    private static void promise1() {
        BranchSums x = new BranchSums();
        int[] looks = {1, 0, 1, 1, 0, 0, 0, 0, 0, 64, 0, 0, 0};
        for (int i = 0; i < looks.length; i++) due("1: look(" + i + ")", x.look(i), looks[i]);
        int[] units = {NONE, 0, 0, 1, 0, 1, 0, 0, 0, 0, 0, 0};
        for (int i = 0; i < units.length; i++) due("1: unit(0, " + i + ")", x.unit(0, i), units[i]);
        for (int u = 1; u < 24; u++) due("1: unit(" + u + ", 1)", x.unit(u, 1), NONE);
        for (int c = 0; c < 64; c++) due("1: of(0, " + c + ", 0)", x.of(0, c, 0), 0);
        counts("1:", x, 0, 0, 0, 0, 0, 0, 0, 0, 0, 0, 0);
        due("1: fault(0)", x.fault(0), 0);
        due("1: fault(1)", x.fault(1), NONE);
        due("1: sign(0)", x.sign(0), NONE);
        due("1: state(0)", x.state(0), 0);
        due("1: versions(0)", x.versions(0), 0);
        due("1: undo()", x.undo(), NONE);
        due("1: image(false)", x.image(false), false);
        due("1: NONE", BranchSums.NONE, -1);
    }

    private static void promise2() {
        BranchSums x = new BranchSums();
        due("2: add(0, 0, 1)", x.add(0, 0, 1), 1);
        due("2: add(0, 0, 9998)", x.add(0, 0, 9998), 9999);
        due("2: add above 9999", x.add(0, 0, 1), NONE);
        due("2: stays", x.of(0, 0, 0), 9999);
        due("2: add(0, 0, -9999)", x.add(0, 0, -9999), 0);
        due("2: add below 0", x.add(0, 0, -1), NONE);
        due("2: add(0, 63, 9999)", x.add(0, 63, 9999), 9999);
        due("2: n 10000", x.add(0, 5, 10000), NONE);
        due("2: n -10000", x.add(0, 63, -10000), NONE);
        due("2: n 0", x.add(0, 5, 0), NONE);
        due("2: n least", x.add(0, 5, MIN), NONE);
        due("2: n greatest", x.add(0, 5, MAX), NONE);
        due("2: category -1", x.add(0, -1, 1), NONE);
        due("2: category 64", x.add(0, 64, 1), NONE);
        due("2: unit 1", x.add(1, 0, 1), NONE);
        due("2: unit -1", x.add(-1, 0, 1), NONE);
        due("2: unit 24", x.add(24, 0, 1), NONE);
        due("2: unit least", x.add(MIN, 0, 1), NONE);
        due("2: acts", x.look(5), 4);
        x = Check.rolled("0(1(2)3)");
        due("2: add(2, 7, 5)", x.add(2, 7, 5), 5);
        due("2: stale are 0, 1, 2", x.look(1), 7);
        due("2: the sum stays", x.of(2, 7, 1), 0);
        x = Check.rolled("0(1(2(3(4(5(6(7(8(9(10(11(12))))))))))))");
        x.add(12, 0, 1);
        due("2: stale are all above", x.look(1), 8191);
        due("7: of thirteen depths", x.roll(0), 0);
        due("7: the deepest one's is in all", x.leads(0), 8191);
        due("7: merges again", x.count(2), 24);
        due("7: rolled up again", x.count(4), 26);
    }

    private static void promise3() {
        BranchSums x = new BranchSums();
        due("3: comes(0, 0)", x.comes(0, 0), false);
        due("3: comes(24, 0)", x.comes(24, 0), false);
        due("3: comes(-1, 0)", x.comes(-1, 0), false);
        due("3: comes(1, 2)", x.comes(1, 2), false);
        due("3: comes(1, 1)", x.comes(1, 1), false);
        due("3: comes(1, -1)", x.comes(1, -1), false);
        due("3: comes(1, 24)", x.comes(1, 24), false);
        due("3: no acts", x.look(5), 0);
        for (int u = 1; u <= 12; u++) due("3: comes(" + u + ")", x.comes(u, u - 1), true);
        due("3: there already", x.comes(1, 0), false);
        due("3: depth 13", x.comes(23, 12), false);
        due("3: depth 12", x.comes(23, 11), true);
        due("3: its depth", x.unit(23, 1), 12);
        due("3: its above", x.unit(23, 0), 11);
        due("3: nobody is stale", x.look(1), 0);
        due("3: came", x.count(6), 13);
        due("3: acts", x.look(5), 10);
        x = Check.rolled("0(1);1:5x3");
        x.add(1, 5, 1);
        x.goes(1);
        due("3: comes again", x.comes(1, 0), true);
        due("3: without own", x.of(1, 5, 0), 0);
        due("3: without sum", x.of(1, 5, 1), 0);
        due("3: not stale", x.unit(1, 4), 0);
        due("3: without versions", x.versions(1), 0);
        due("3: gone ones are not in the sums", x.look(8), 7);
    }

    private static void promise4() {
        BranchSums x = Check.rolled("0(1(2)3);1:5x10;2:9x4");
        due("4: the head", x.goes(0), NONE);
        due("4: one above another", x.goes(1), NONE);
        due("4: not there", x.goes(4), NONE);
        due("4: -1", x.goes(-1), NONE);
        due("4: 24", x.goes(24), NONE);
        int cost = x.count(0);
        due("4: goes(2)", x.goes(2), 3);
        due("4: own comes up", x.of(1, 9, 0), 4);
        due("4: beside what was there", x.of(1, 5, 0), 10);
        due("4: is not there", x.unit(2, 1), NONE);
        due("4: stale are 0, 1", x.look(1), 3);
        due("4: cost counted", x.count(0) - cost, 3);
        due("4: went", x.count(7), 1);
        due("4: there", x.look(0), 11);
        due("4: goes without entries", x.goes(3), 0);
        due("4: merges", x.count(2), 5);
        x = Check.rolled("0(1);0:5x9000;1:5x1000");
        due("4: above 9999", x.goes(1), NONE);
        due("4: all stays", x.of(0, 5, 0) + x.look(1) + x.count(7), 9000);
        x.add(1, 5, -1);
        due("4: just 9999", x.goes(1), 7);
        due("4: own", x.of(0, 5, 0), 9999);
        x = Check.rolled("0(1 23);1:0x1,63x2;23:0x4,63x8");
        due("4: the first category and the last", x.goes(1), 0);
        due("4: with others", x.goes(23), 13);
        due("4: all of them", x.of(0, 0, 0) * 100 + x.of(0, 63, 0), 510);
        int[] ends = {0, 63};
        for (int c : ends) {
            x.comes(1, 0);
            x.add(1, c, 9999);
            due("4: above 9999 of " + c, x.goes(1), NONE);
            x.add(1, c, -9999);
            x.goes(1);
        }
    }

    private static void promise5() {
        BranchSums x = Check.rolled("0(1(3)2)");
        due("5: the head", x.move(0, 1), NONE);
        due("5: itself", x.move(1, 1), NONE);
        due("5: into its branch", x.move(1, 3), NONE);
        due("5: where it is", x.move(3, 1), NONE);
        due("5: not there", x.move(4, 0), NONE);
        due("5: below none", x.move(3, 4), NONE);
        due("5: -1", x.move(-1, 0), NONE);
        due("5: below -1", x.move(3, -1), NONE);
        due("5: 24", x.move(24, 0) + x.move(3, 24), 2 * NONE);
        due("5: not moved", x.count(5), 0);
        due("5: move(1, 2)", x.move(1, 2), 2);
        due("5: above it", x.unit(1, 0), 2);
        due("5: stale are 0, 2", x.look(1), 5);
        due("5: moved", x.count(5), 1);
        x = Check.rolled("0(1(3)2(4(5)))");
        due("5: move(5, 1)", x.move(5, 1), 1);
        due("5: stale are all above, not itself", x.look(1), 1 + 2 + 4 + 16);
        x = new BranchSums();
        for (int u = 1; u <= 10; u++) x.comes(u, u - 1);
        x.comes(20, 0);
        x.comes(21, 20);
        x.comes(22, 21);
        due("5: depth 13", x.move(20, 10), NONE);
        due("5: depth 12", x.move(21, 10), 2);
        due("5: the deepest", x.unit(22, 1), 12);
    }

    private static void promise6() {
        BranchSums x = Check.rolled("0(1 2(3)4);1:5x10,9x4,40x7;3:8x1");
        int merged = x.count(0);
        int merges = x.count(2);
        due("6: give(1, 3, 6, 45)", x.give(1, 3, 6, 45), 11);
        due("6: split cost", x.count(1), 3);
        due("6: splits", x.count(3), 1);
        due("6: merge cost", x.count(0) - merged, 6);
        due("6: merges", x.count(2) - merges, 1);
        due("6: given over", x.count(8), 11);
        due("6: stale", x.look(1), 15);
        int[] own = {x.of(1, 5, 0), x.of(1, 9, 0), x.of(1, 40, 0), x.of(3, 8, 0), x.of(3, 9, 0), x.of(3, 40, 0)};
        int[] want = {10, 0, 0, 1, 4, 7};
        for (int i = 0; i < own.length; i++) due("6: own " + i, own[i], want[i]);
        x.roll(0);
        int acts = x.look(5);
        due("6: nothing given", x.give(4, 1, 0, 63), 0);
        due("6: is an act", x.look(5), acts + 1);
        due("6: makes both stale", x.look(1), 1 + 2 + 16);
        due("6: is a split", x.count(3), 2);
        due("6: both ends", x.give(3, 1, 8, 9), 5);
        due("6: same unit", x.give(1, 1, 0, 63), NONE);
        due("6: low above high", x.give(1, 2, 6, 5), NONE);
        due("6: low -1", x.give(1, 2, -1, 5), NONE);
        due("6: high 64", x.give(1, 2, 0, 64), NONE);
        due("6: low least, high greatest", x.give(1, 2, MIN, MAX), NONE);
        due("6: from none", x.give(5, 2, 0, 63), NONE);
        due("6: to none", x.give(1, 5, 0, 63), NONE);
        due("6: from -1, to 24", x.give(-1, 24, 0, 63), NONE);
        x = Check.rolled("0(1);0:5x9000,6x1;1:5x1000,6x9");
        due("6: above 9999", x.give(0, 1, 0, 63), NONE);
        due("6: all stays", x.of(0, 6, 0) + x.count(3) + x.look(1), 1);
        due("6: what can be", x.give(0, 1, 6, 6), 1);
        x = Check.rolled("0(1);0:5x1,6x1,7x1,8x1;1:5x9999,8x9999");
        due("6: just from low to high", x.give(0, 1, 6, 7), 2);
        due("6: split from its neighbours", x.count(1), 5);
        due("6: above 9999 at an end", x.give(0, 1, 5, 7) + x.give(0, 1, 6, 8), 2 * NONE);
        x = Check.rolled("0(1);0:0x3,63x4");
        due("6: all of it", x.give(0, 1, 0, 63), 7);
        due("6: nothing out of it", x.count(1) + x.look(7), 7);
    }

    private static void promise7() {
        BranchSums x = new BranchSums();
        Check.read(x, "0(1 2(3));0:62x1;1:0x1,1x1;2:0x1,63x1");
        due("7: none such", x.roll(4), NONE);
        due("7: -1", x.roll(-1), NONE);
        due("7: 24", x.roll(24), NONE);
        due("7: roll(3)", x.roll(3), 0);
        due("7: not stale", x.roll(3), NONE);
        due("7: stale are the others", x.look(1), 7);
        due("7: a version of it alone", x.versions(3) * 10 + x.versions(2), 10);
        due("7: roll(0)", x.roll(0), 13);
        due("7: nobody is stale", x.look(1), 0);
        counts("7:", x, 13, 0, 3, 0, 4);
        due("7: its sum", x.of(0, 0, 1) * 1000 + x.of(0, 1, 1) * 100 + x.of(0, 62, 1) * 10 + x.of(0, 63, 1), 2111);
        due("7: acts", x.look(5), 3);
        x.add(1, 1, 4);
        due("7: the others are not rolled up again", x.roll(0), 13);
        due("7: rolled up", x.count(4), 6);
        due("7: their versions", x.versions(2), 1);
        x.add(3, 9, 4);
        due("7: the sum is as it was", x.of(0, 9, 1), 0);
        due("7: from below on", x.roll(2), 3);
        due("7: those above are as they were", x.of(0, 9, 1) + 10 * x.of(2, 9, 1), 40);
        due("7: still stale", x.look(1), 1);
    }

    private static void promise8() {
        BranchSums x = Check.rolled("0(1 2 3);0:9x3;1:5x10,9x4;2:5x7");
        int merged = x.count(0);
        int merges = x.count(2);
        due("8: recode(5, 4)", x.recode(5, 4), 17);
        due("8: split cost", x.count(1), 3);
        due("8: splits", x.count(3), 2);
        due("8: merge cost", x.count(0) - merged, 3);
        due("8: merges", x.count(2) - merges, 2);
        due("8: recoded", x.count(10), 17);
        due("8: stale are 0, 1, 2", x.look(1), 7);
        due("8: own", x.of(1, 4, 0) * 100 + x.of(2, 4, 0) * 10 + x.of(1, 5, 0) + x.of(2, 5, 0), 1070);
        x.roll(0);
        due("8: to one that is there", x.recode(9, 4), 7);
        due("8: split cost again", x.count(1), 6);
        due("8: merge cost into the rest", x.of(1, 4, 0), 14);
        due("8: stale are 0, 1", x.look(1), 3);
        due("8: nobody has it", x.recode(9, 4), NONE);
        due("8: the same", x.recode(4, 4), NONE);
        due("8: -1", x.recode(-1, 4), NONE);
        due("8: 64", x.recode(64, 4), NONE);
        due("8: to -1", x.recode(4, -1), NONE);
        due("8: to 64", x.recode(4, 64), NONE);
        x = Check.rolled("0(1);0:5x3;1:5x9000,6x1000");
        due("8: above 9999", x.recode(5, 6), NONE);
        due("8: all stays", x.of(0, 5, 0) * 10 + x.look(1) + x.look(5) + x.count(3), 32);
        x.add(1, 6, -1);
        due("8: just 9999", x.recode(5, 6), 9003);
        x = Check.rolled("0(7 23);0:6x9999;7:4x1,5x1;23:4x1,3x1");
        due("8: one each", x.recode(4, 60), 2);
        due("8: split from its neighbours", x.count(1), 6 + 4);
        due("8: stale", x.look(1), 1 + 128 + (1 << 23));
        due("8: one that has none may have 9999", x.recode(5, 6), 1);
        x.add(7, 60, 9998);
        due("8: one behind another above 9999", x.recode(6, 60), NONE);
        due("8: none is", x.of(0, 60, 0), 0);
        x.add(7, 60, -1);
        due("8: both just 9999", x.recode(6, 60), 10000);
        due("8: all of 60", x.of(0, 60, 0) * 10 + x.of(7, 60, 0), 99990 + 9999);
    }

    private static void promise16() {
        BranchSums x = new BranchSums();
        for (int i = 1; i <= 12; i++) x.add(0, 3, 1);
        for (int i = 9; i >= 0; i--) {
            due("16: undo()", x.undo(), i);
            due("16: own", x.of(0, 3, 0), i + 2);
        }
        due("16: none left", x.undo(), NONE);
        due("16: undone", x.count(9), 10);
        due("16: still stale", x.look(1), 1);
        x = Check.rolled("0(1(3)2);1:9x3;3:5x10;2:5x7");
        due("16: roll undone", x.undo(), 1);
        due("16: stale again", x.look(1), 15);
        due("16: no sums", x.look(8), 0);
        due("16: no versions", x.versions(0), 0);
        due("16: text undone", x.undo(), 0);
        due("16: the head alone", x.look(0) * 100 + x.look(7), 100);
    }

    private static void promise16Acts() {
        BranchSums x = Check.rolled("0(1(3)2);1:9x3;3:5x10;2:5x7");
        x.add(3, 5, 1);
        x.comes(4, 2);
        x.move(1, 2);
        x.give(2, 0, 0, 63);
        x.recode(5, 6);
        x.goes(4);
        due("16: goes undone", x.undo(), 7);
        due("16: it is there again", x.unit(4, 0), 2);
        x.undo();
        due("16: recode undone", x.of(3, 5, 0), 11);
        x.undo();
        due("16: give undone", x.of(2, 5, 0), 7);
        x.undo();
        due("16: move undone", x.unit(1, 0), 0);
        x.undo();
        due("16: comes undone", x.unit(4, 0), NONE);
        x.undo();
        due("16: add undone", x.of(3, 5, 0), 10);
        due("16: nobody is stale", x.look(1), 0);
        due("16: counts stay", x.count(5) + x.count(6) * 10 + x.count(7) * 100, 111);
        for (int i = 0; i < 9; i++) {
            x.add(3, 5, 1);
            x.roll(0);
        }
        due("16: eight versions", x.was(3, 0, 5) * 100 + x.was(3, 7, 5), 1912);
        x.undo();
        due("16: as ahead of it", x.was(3, 0, 5) * 100 + x.was(3, 7, 5), 1811);
    }

    private static void promise16Stays() {
        BranchSums x = new BranchSums();
        x.comes(1, 0);
        x.limit(0, 0, 63, 5);
        x.state(77);
        x.image(true);
        x.report(0);
        x.feed(1, 2, 3, 4, 5);
        x.undo();
        due("16: limits stay", x.look(10), 1);
        due("16: state stays", x.state(0), 77);
        due("16: the tape stays", x.look(6), 20);
        due("16: the report stays", x.sign(1), ':');
        due("16: the image stays", x.look(12), 2);
        due("16: counts stay", x.count(6), 1);
        Check.read(x, "0(");
        x.add(0, 0, 1);
        x.undo();
        due("16: the fault stays", x.fault(0) * 10 + x.fault(1), 12);
    }

    private static void promise47() {
        BranchSums x = new BranchSums();
        Check.read(x, "0(1 2(3));0:62x1;1:0x1,1x1;2:0x1,63x1");
        due("47: cost(0)", x.cost(0), 13);
        due("47: cost(1)", x.cost(1), 0);
        due("47: nothing stays", x.look(1) * 100 + x.look(8) + x.count(0) + x.count(4) + x.versions(0), 1500);
        due("47: no act", x.look(5), 1);
        due("47: roll(0)", x.roll(0), 13);
        due("47: not stale", x.cost(0), 0);
        due("47: none such", x.cost(4), NONE);
        x.add(3, 5, 1);
        x.would(3, 1, 2);
        due("47: as it is now", x.cost(0), x.roll(0));
        due("47: -1", x.cost(-1), NONE);
        due("47: 24", x.cost(24), NONE);
    }

    private static void promise48() {
        BranchSums x = Check.rolled("0(1(3)2);1:9x3;3:5x10;2:9x4");
        int cost = x.count(0);
        due("48: would(3, 2, 0)", x.would(3, 2, 0), 10);
        due("48: would(3, 2, 1)", x.would(3, 2, 1), 5);
        due("48: would(3, 2, 2)", x.would(3, 2, 2), 2);
        due("48: would(3, 2, 3)", x.would(3, 2, 3), 7);
        due("48: would(3, 2, 4)", x.would(3, 2, 4), NONE);
        due("48: would(3, 2, -1)", x.would(3, 2, -1), NONE);
        due("48: the head", x.would(0, 1, 0), NONE);
        due("48: into its branch", x.would(1, 3, 0), NONE);
        due("48: where it is", x.would(3, 1, 3), NONE);
        due("48: none such", x.would(4, 1, 0) + x.would(1, 4, 0) + x.would(-1, 24, 0), 3 * NONE);
        due("48: nothing stays", x.look(1) + x.count(5) + x.unit(3, 0) + x.versions(0), 2);
        due("48: no cost", x.count(0) - cost, 0);
        due("48: no act", x.look(5), 2);
        x.move(3, 2);
        due("48: as it is then", x.cost(0), 10);
        x = Check.rolled("0(5 9(23));0:5x1;9:5x2;23:6x1");
        due("48: others behind gaps", x.would(23, 5, 2), 1);
        due("48: a leader at the end", x.would(23, 5, 1), 6);
        x = Check.rolled("0(1 2)");
        due("48: without entries", x.would(1, 2, 1), NONE);
        due("48: no other leader", x.would(1, 2, 2), 0);
        x = Check.rolled("0(1 2)");
        x.add(2, 5, 1);
        due("48: leaders of the sums as they are", x.would(1, 2, 2), 2);
    }

    private static void promise50() {
        BranchSums x = Check.rolled("0(1(3)2);1:9x3;3:5x10;2:5x7");
        counts("50:", x, 10, 0, 3, 0, 4, 0, 0, 0, 0, 0, 0);
        x.comes(4, 3);
        x.comes(5, 3);
        x.move(3, 2);
        x.give(3, 4, 5, 5);
        x.recode(5, 6);
        x.goes(4);
        x.undo();
        x.undo();
        counts("50:", x, 10, 0, 7, 3, 4, 1, 2, 1, 10, 2, 17);
        due("50: count(11)", x.count(11), NONE);
        due("50: count(-1)", x.count(-1), NONE);
        due("50: count(least)", x.count(MIN), NONE);
        due("50: count(greatest)", x.count(MAX), NONE);
    }

    private static void promise51() {
        BranchSums x = Check.rolled("0(1(3)2);1:9x3;3:5x10;2:5x7");
        x.limit(0, 0, 63, 5);
        x.state(77);
        due("51: none yet", x.image(false), false);
        due("51: taken", x.image(true), true);
        due("51: acts stay", x.look(5), 2);
        x.comes(4, 2);
        x.add(4, 5, 1);
        x.roll(0);
        x.limit(1, 0, 63, 5);
        x.limit(0, 0, 63, -1);
        x.state(5);
        x.report(2);
        Check.read(x, "0;;");
        x.feed(1, 2, 3, 4, 5);
        for (int i = 0; i < 2; i++) {
            due("51: gone back", x.image(false), true);
            due("51: nothing to undo", x.look(5), 0);
            due("51: undo()", x.undo(), NONE);
            due("51: units", x.look(0), 15);
            due("51: stale", x.look(1), 0);
            due("51: sums", x.of(0, 5, 1), 17);
            due("51: versions", x.versions(0), 1);
            due("51: came", x.count(6), 0);
            due("51: rolled", x.count(4), 4);
            due("51: the limit", x.broken(0, 0) * 100 + x.broken(0, 1) + x.look(10), 16);
            due("51: state", x.state(1), 77);
            due("51: the report stays", x.sign(0), '2');
            due("51: the tape stays", x.look(6), 20);
            due("51: the fault stays", x.fault(0) * 10 + x.fault(1), 12);
            x.move(3, 2);
            x.add(3, 5, 5);
            due("51: goes on", x.look(5), 2);
        }
        x.image(true);
        x.undo();
        x.image(false);
        due("51: a later image", x.of(3, 5, 0), 15);
        x.roll(0);
        x.limit(3, 5, 9, 2);
        x.image(true);
        x.limit(3, 5, 9, NONE);
        x.limit(0, 0, 63, NONE);
        x.limit(2, 0, 0, 0);
        x.image(false);
        due("51: both limits", x.broken(NONE, 0) * 10 + x.look(10), 22);
        due("51: the second", x.broken(1, 0) * 100 + x.broken(1, 1), 313);
    }

    public static void main(String[] args) {
        promise1();
        promise2();
        promise3();
        promise4();
        promise5();
        promise6();
        promise7();
        promise8();
        promise16();
        promise16Acts();
        promise16Stays();
        promise47();
        promise48();
        promise50();
        promise51();
        Check.close("ActsTest");
    }
}

/** Promises 33, 36 to 39 and 43 to 46: versions of a SUM, and several SUMS side by side. */
public final class ManyTest {
    private static final int NONE = BranchSums.NONE;
    private static final int NO_GROWTH = NONE - 99999;
    private static final int MIN = Integer.MIN_VALUE;
    private static final int MAX = Integer.MAX_VALUE;

    private static void due(String call, long got, long want) {
        Check.due(call, got, want);
    }

    private static void promise33() {
        BranchSums x = Check.rolled("0(1 2(3)4);1:5x10;3:5x7;4:5x10,9x1");
        // SUMS: 0 5x27 9x1; 1 5x10; 2 5x7; 3 5x7; 4 5x10 9x1.
        due("33: twin(1)", x.twin(1), 4);
        due("33: twin(2)", x.twin(2), 3);
        due("33: twin(3)", x.twin(3), 2);
        due("33: twin(4)", x.twin(4), 1);
        due("33: twin(0)", x.twin(0), 4);
        x.comes(6, 0);
        x.comes(7, 0);
        x.comes(8, 0);
        due("33: of several the least", x.twin(8), 6);
        BranchSums y = Check.rolled("0(7 9);0:0x5;7:0x3;9:0x2");
        due("33: of the first category", y.twin(7), 9);
        due("33: the head", y.twin(9), 7);
        y = Check.rolled("0(7);0:5x1;7:5x2");
        due("33: the head alone", y.twin(7), 0);
        due("33: not itself", x.twin(6), 7);
        x.add(1, 5, -10);
        due("33: of sums as they are", x.twin(1), 4);
        due("33: none", new BranchSums().twin(0), NONE);
        due("33: none such", x.twin(5) + x.twin(-1) + x.twin(24), 3 * NONE);
    }

    private static void promises36and37() {
        BranchSums x = new BranchSums();
        x.comes(1, 0);
        due("36: none as it comes", x.versions(1), 0);
        due("37: none", x.was(1, 0, 5), NONE);
        for (int i = 1; i <= 10; i++) {
            x.add(1, 5, 1);
            x.add(1, 63, 2);
            x.roll(i % 2);
            due("36: versions(1)", x.versions(1), Math.min(i, 8));
            due("36: versions(0)", x.versions(0), i / 2);
        }
        for (int v = 0; v < 8; v++) due("37: was(1, " + v + ")", x.was(1, v, 5) * 100 + x.was(1, v, 63), (10 - v) * 102);
        for (int v = 0; v < 5; v++) due("37: was(0, " + v + ")", x.was(0, v, 5), 10 - 2 * v);
        due("37: version 8", x.was(1, 8, 5), NONE);
        due("37: version 5", x.was(0, 5, 5), NONE);
        due("37: version -1", x.was(1, -1, 5), NONE);
        due("37: version greatest", x.was(1, MAX, 5), NONE);
        due("37: category 64", x.was(1, 0, 64), NONE);
        due("37: category -1", x.was(1, 0, -1), NONE);
        due("37: none such", x.was(2, 0, 5) + x.was(-1, 0, 5) + x.was(24, 0, 5), 3 * NONE);
        due("36: none such", x.versions(2) + x.versions(-1) + x.versions(24), 3 * NONE);
        x.roll(1);
        due("36: not stale, no version", x.was(1, 1, 5), 9);
        x.add(1, 5, 1);
        x.add(1, 5, -1);
        x.roll(1);
        due("36: stale, a version", x.was(1, 1, 5), 10);
        Check.read(x, "0(1)");
        due("36: none by a text", x.versions(1) + x.versions(0), 0);
    }

    private static void grew(BranchSums x, int v, int... want) {
        for (int i = 0; i < want.length; i++) due("38: grew(0, " + v + ", " + i + ")", x.grew(0, v, i), want[i]);
    }

    private static void promise38() {
        BranchSums x = Check.rolled("0(1);0:1x5,2x5,3x5");
        grew(x, 1, NO_GROWTH, NO_GROWTH);
        x.add(0, 1, 2);
        x.add(0, 2, -1);
        x.add(0, 4, 1);
        x.roll(0);
        grew(x, 1, 1, 2, 2, 1, 3, NO_GROWTH);
        x.add(0, 0, 1);
        x.roll(0);
        grew(x, 1, 0, 1, 1, 0, 1);
        grew(x, 2, 1, 2, 2, 1, 4);
        x.add(0, 3, -1);
        x.add(0, 63, 2);
        x.roll(0);
        grew(x, 3, 1, 2, 2, 1, 6);
        grew(x, 1, 63, 2, 3, 1, 2);
        x.add(1, 0, 1);
        x.add(1, 0, -1);
        x.roll(0);
        grew(x, 1, 0, 0, 0, 0, 0);
        grew(x, 5, NO_GROWTH, NO_GROWTH, NO_GROWTH, NO_GROWTH, NO_GROWTH);
        grew(x, 0, NO_GROWTH);
        grew(x, -1, NO_GROWTH);
        grew(x, MIN, NO_GROWTH);
        grew(x, MAX, NO_GROWTH);
        due("38: what -1", x.grew(0, 1, -1), NO_GROWTH);
        due("38: none such", x.grew(2, 1, 0) + x.grew(-1, 1, 0) + x.grew(24, 1, 0), 3 * NO_GROWTH);
        due("38: NONE - 99999", NO_GROWTH, -100000);
    }

    private static void allFell() {
        StringBuilder s = new StringBuilder("0;0:");
        for (int c = 0; c < 64; c++) s.append(c > 0 ? "," : "").append(c).append("x9");
        BranchSums x = Check.rolled(s.toString());
        for (int c = 0; c < 64; c++) x.add(0, c, c == 7 ? -3 : c == 20 || c == 21 ? -1 : -2);
        x.roll(0);
        grew(x, 1, 20, -1, 7, 3, 64);
        for (int c = 0; c < 64; c++) x.add(0, c, c == 7 || c == 8 ? 1 : 2);
        x.roll(0);
        grew(x, 1, 0, 2, 7, -1, 64);
    }

    private static void halves(String text, int set, int apart) {
        BranchSums x = Check.rolled(text);
        due("39: set of " + text, x.halves(0, 0), set);
        due("39: apart of " + text, x.halves(0, 1), apart);
    }

    private static void promise39() {
        halves("0", 0, 0);
        halves("0(1);1:5x7", 0, 7);
        halves("0(1 2)", 0, 0);
        halves("0(1 2);0:9x99;1:5x4;2:6x4", 2, 0);
        halves("0(1 2 3);1:5x10;2:5x4;3:5x7", 2, 1);
        halves("0(1 2 3);1:5x10;2:5x3;3:5x3", 2, 4);
        halves("0(3 9 20(1)23);20:5x10;1:5x5;3:5x6;23:7x2,9x7", 1 << 20, 0);
        halves("0(1 2 3 4);1:5x8;2:5x7;3:5x6;4:5x5", 4 + 8, 0);
        StringBuilder s = new StringBuilder("0(");
        for (int u = 1; u <= 12; u++) s.append(u).append(' ');
        String twelve = s + ")";
        for (int u = 1; u <= 12; u++) twelve += ";" + u + ":5x1";
        halves(twelve, 126, 0);
        BranchSums x = Check.rolled(s + "13)");
        due("39: thirteen", x.halves(0, 0), NONE);
        due("39: thirteen apart", x.halves(0, 1), NONE);
        due("39: what 2", x.halves(1, 2), NONE);
        due("39: what -1", x.halves(1, -1), NONE);
        due("39: none such", x.halves(14, 0) + x.halves(-1, 0) + x.halves(24, 1), 3 * NONE);
        x = Check.rolled("0(1 2);1:5x4;2:6x4");
        x.add(2, 6, 50);
        due("39: of sums as they are", x.halves(0, 0) + x.halves(0, 1), 2);
    }

    private static void promises43and44() {
        BranchSums x = Check.rolled("0(1 2);1:5x10,9x4,40x1;2:5x7,8x2,63x1");
        due("43: unlike(1, 2)", x.unlike(1, 2), 3 + 4 + 1 + 2 + 1);
        due("43: unlike(2, 1)", x.unlike(2, 1), 11);
        due("43: unlike(0, 1)", x.unlike(0, 1), 10);
        due("43: unlike(1, 1)", x.unlike(1, 1), 0);
        due("43: none such", x.unlike(3, 1) + x.unlike(1, 3) + x.unlike(-1, 24), 3 * NONE);
        due("44: in both", x.shared(1, 2, 0), 1);
        due("44: in either", x.shared(1, 2, 1), 5);
        // 64; 32 from 0 and from 32; 16 and 8 from 0; 8 from 8; 4 and 2 from 4 and 8; 5 itself.
        due("44: spans", x.shared(1, 2, 2), 1 + 2 + 1 + 2 + 2 + 2 + 1);
        due("44: lesser numbers", x.shared(1, 2, 3), 7);
        due("44: of itself", x.shared(1, 1, 3) * 100 + x.shared(1, 1, 2), 1517);
        BranchSums y = Check.rolled("0(1 2);1:0x2,63x3;2:0x5,63x1");
        due("43: first and last", y.unlike(1, 2), 5);
        due("44: first and last", y.shared(1, 2, 3) * 100 + y.shared(1, 2, 2), 313);
        due("44: what 4", x.shared(1, 2, 4), NONE);
        due("44: what -1", x.shared(1, 2, -1), NONE);
        due("44: none such", x.shared(3, 1, 0) + x.shared(1, 3, 0) + x.shared(-1, 24, 0), 3 * NONE);
        x.add(1, 63, 9);
        due("43: of sums as they are", x.unlike(1, 2), 11);
        due("44: of sums as they are", x.shared(1, 2, 0), 1);
    }

    private static void promises45and46() {
        BranchSums x = Check.rolled("0(1(3)2(5)4);1:9x3;3:5x10,9x4;5:5x7,8x7;4:63x3");
        due("45: leads(5)", x.leads(5), 1 + 2 + 8 + 4 + 32);
        due("45: leads(8)", x.leads(8), 0);
        due("45: leads(63)", x.leads(63), 16);
        due("45: leads(0)", x.leads(0), 0);
        due("45: leads(-1)", x.leads(-1), NONE);
        due("45: leads(64)", x.leads(64), NONE);
        x.add(4, 0, 99);
        due("45: of sums as they are", x.leads(63), 16);
        due("46: where(5, 1)", x.where(5, 1), 3);
        due("46: where(5, 7)", x.where(5, 7), 3);
        due("46: where(5, 10)", x.where(5, 10), 3);
        due("46: where(5, 11)", x.where(5, 11), 0);
        due("46: where(5, 18)", x.where(5, 18), NONE);
        due("46: where(8, 7)", x.where(8, 7), 5);
        due("46: where(9, 5)", x.where(9, 5), 1);
        due("46: where(63, 3)", x.where(63, 3), 4);
        due("46: where(63, 4)", x.where(63, 4), NONE);
        due("46: of sums as they are", x.where(0, 1), NONE);
        due("46: k 0", x.where(5, 0), NONE);
        due("46: k -1", x.where(5, -1), NONE);
        due("46: k 999999", x.where(5, 999999), NONE);
        due("46: k 1000000", x.where(5, 1000000), NONE);
        due("46: category 64", x.where(64, 1), NONE);
        due("46: category -1", x.where(-1, 1), NONE);
        x = Check.rolled("0(1 3(2)4(5));1:5x1;2:5x1;5:5x1");
        due("46: of several the least", x.where(5, 1), 2);
    }

    public static void main(String[] args) {
        promise33();
        promises36and37();
        promise38();
        allFell();
        promise39();
        promises43and44();
        promises45and46();
        Check.close("ManyTest");
    }
}

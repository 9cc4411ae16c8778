/** Promises 9 to 15: limits, state, the tape and texts. */
public final class TellingTest {
    private static final int NONE = BranchSums.NONE;
    private static final int MIN = Integer.MIN_VALUE;
    private static final int MAX = Integer.MAX_VALUE;

    private static void due(String call, long got, long want) {
        Check.due(call, got, want);
    }

    private static void promise9() {
        BranchSums x = new BranchSums();
        due("9: one not there", x.limit(23, 0, 63, 0), 1);
        due("9: another span", x.limit(23, 1, 63, 999999), 2);
        due("9: the same again", x.limit(23, 0, 63, 7), 2);
        due("9: one category", x.limit(0, 63, 63, 3), 3);
        due("9: unit -1", x.limit(-1, 0, 63, 3), NONE);
        due("9: unit 24", x.limit(24, 0, 63, 3), NONE);
        due("9: low above high", x.limit(0, 5, 4, 3), NONE);
        due("9: low -1", x.limit(0, -1, 4, 3), NONE);
        due("9: high 64", x.limit(0, 0, 64, 3), NONE);
        due("9: n 1000000", x.limit(0, 0, 5, 1000000), NONE);
        due("9: n -2", x.limit(0, 0, 5, -2), NONE);
        due("9: n least", x.limit(0, 0, 5, MIN), NONE);
        due("9: none such", x.limit(0, 0, 5, NONE), NONE);
        due("9: another unit's", x.limit(1, 0, 63, NONE), NONE);
        due("9: none any more", x.limit(23, 0, 63, NONE), 2);
        due("9: gone", x.limit(23, 0, 63, NONE), NONE);
        for (int i = 3; i <= 12; i++) due("9: limit " + i, x.limit(1, i, i, i), i);
        due("9: a thirteenth", x.limit(2, 0, 0, 1), NONE);
        due("9: a later n of one", x.limit(1, 12, 12, 1), 12);
        due("9: how many", x.look(10), 12);
        due("9: no acts", x.look(5), 0);
        due("9: one less", x.limit(1, 12, 12, NONE), 11);
        due("9: room again", x.limit(2, 0, 0, 1), 12);
    }

    private static void promise10() {
        BranchSums x = Check.rolled("0(1 2);0:9x3;1:5x10,9x4;2:5x7");
        x.limit(2, 5, 5, 6);
        x.limit(0, 5, 9, 24);
        x.limit(1, 6, 9, 3);
        x.limit(4, 0, 63, 0);
        x.limit(0, 9, 9, 0);
        due("10: how many", x.broken(NONE, 0), 3);
        due("10: whatever what is", x.broken(NONE, MAX), 3);
        int[] units = {2, 1, 0};
        int[] excess = {1, 1, 7};
        for (int i = 0; i < 3; i++) {
            due("10: unit of " + i, x.broken(i, 0), units[i]);
            due("10: excess of " + i, x.broken(i, 1), excess[i]);
        }
        due("10: none such", x.broken(3, 0), NONE);
        due("10: -2", x.broken(-2, 0), NONE);
        due("10: greatest", x.broken(MAX, 0), NONE);
        due("10: what 2", x.broken(0, 2), NONE);
        due("10: what -1", x.broken(0, -1), NONE);
        x.limit(2, 5, 5, 1);
        due("10: the later n at its place", x.broken(0, 0) * 10 + x.broken(0, 1), 26);
        x.add(1, 9, 9);
        due("10: sums as they are", x.broken(1, 1), 1);
        x.limit(2, 5, 5, NONE);
        due("10: those behind it", x.broken(0, 0) * 100 + x.broken(1, 1), 107);
        x.goes(2);
        x.roll(0);
        x.limit(2, 0, 63, 0);
        due("10: one that went", x.broken(NONE, 0), 3);
        due("10: just so many", x.broken(0, 1), 9);
    }

    private static void promise11() {
        BranchSums x = Check.rolled("0;0:3x5,4x2,5x5,10x1,20x7");
        due("11: at first", x.state(5), 0);
        due("11: told", x.state(-7), 5);
        due("11: below 0", x.state(MIN), -7);
        due("11: least", x.state(0), MIN);
        x.drawn(0, 1, 3);
        due("11: after a draw", x.state(0), 1013904223);
    }

    private static void promise12() {
        BranchSums x = new BranchSums();
        for (int n = 20; n <= 400; n += 20) due("12: feed", x.feed(1, 2, 3, 4, 5), n);
        due("12: above 400", x.feed(1, 2, 3, 4, 5), NONE);
        due("12: none come", x.look(6), 400);
        x.end(381);
        due("12: 401", x.feed(1, 2, 3, 4, 5), NONE);
        x.end(380);
        due("12: 400", x.feed(1, 2, 3, 4, 5), 400);
        x.end(0);
        // "0;0:63x9999,5x12 ; " and a byte that can't stand anywhere.
        due("12: feed", x.feed(0x303b303a, 0x36337839, 0x3939392c, 0x35783132, 0x203b20ff), 20);
        x.text();
        due("12: the highest first", x.fault(0) * 100 + x.fault(1), 119);
        x.feed(0x303b303a, 0x36337839, 0x3939392c, 0x35783132, 0x203b2020);
        due("12: a text", x.text(), 1);
        due("12: of 63", x.of(0, 63, 0), 9999);
        due("12: of 5", x.of(0, 5, 0), 12);
    }

    private static void promise13() {
        BranchSums x = new BranchSums();
        Check.due("13: end(0)", x.end(0), true);
        Check.due("13: end(1)", x.end(1), false);
        x.feed(0x30282020, 0x20202020, 0x20202020, 0x20202020, 0x20202020);
        Check.due("13: end(21)", x.end(21), false);
        Check.due("13: end(-1)", x.end(-1), false);
        Check.due("13: end(least)", x.end(MIN), false);
        Check.due("13: end(greatest)", x.end(MAX), false);
        Check.due("13: end(20)", x.end(20), true);
        Check.due("13: end(1)", x.end(1), true);
        due("13: bytes", x.look(6), 1);
        due("13: the first alone", x.text(), 1);
        x.feed(0x30282020, 0x20202020, 0x20202020, 0x20202020, 0x20202020);
        x.end(3);
        due("13: bytes of it", x.look(6), 3);
        due("13: then others", x.feed(0x31293b30, 0x3a357833, 0x20202020, 0x20202020, 0x20202020), 23);
        due("13: a text", x.text(), 2);
        Check.tape(x, "01");
        x.end(1);
        due("13: no digit behind it", x.text(), 1);
        Check.tape(x, "0(    ");
        x.end(2);
        due("13: no blank behind it", x.text(), NONE);
        due("13: its length", x.fault(1), 2);
    }

    private static void text(String text, int units) {
        BranchSums x = new BranchSums();
        due("14: " + text, Check.read(x, text), units);
        due("15: " + text, x.fault(0) * 1000 + x.fault(1), -1);
    }

    private static void promise14() {
        BranchSums x = Check.rolled("0(5 6);5:1x1");
        x.limit(3, 0, 63, 9);
        x.state(8);
        int cost = x.count(0);
        Check.tape(x, "0(1(3)2);1:9x3;3:5x10,9x4;2:5x7;1:0x1");
        due("14: text()", x.text(), 4);
        due("14: units", x.look(0), 15);
        due("14: all stale", x.look(1), 15);
        due("14: no sums", x.look(8), 0);
        due("14: no versions", x.versions(0), 0);
        due("14: own", x.of(1, 9, 0) + x.of(3, 5, 0) * 10 + x.of(3, 9, 0) * 1000 + x.of(2, 5, 0) * 10000, 74103);
        due("14: told later", x.of(1, 0, 0), 1);
        due("14: above", x.unit(1, 0) + x.unit(2, 0) + x.unit(3, 0), 1);
        due("14: the tape is empty", x.look(6), 0);
        due("14: an act", x.look(5), 3);
        due("14: not come", x.count(6), 0);
        due("14: limits, state", x.look(10) * 10 + x.state(8), 18);
        due("14: no cost", x.count(0), cost);
        due("14: undone", x.undo(), 2);
        due("14: as it was", x.look(0) * 10 + x.of(0, 1, 1) + x.look(1), 971);
    }

    private static void promise14Texts() {
        text("0", 1);
        text("  00  ", 1);
        text("0;", 1);
        text(" 0 ; ", 1);
        text("0(1)", 2);
        text("0(1 2 3(4 5)6)", 7);
        text(" 0 ( 1 ( 2 ) 3 ) ; 1 : 5 x 6 , 7 x 8 ; 2 : 5 x 6 ; ", 4);
        text("0(01(0023)2);00:00x0001,063x09999;", 4);
        text("0;0:000000000000000000005x00000000000000000000012", 1);
        text("0(1);1:5x1;0:5x1;1:6x1", 2);
        text("0(1(2(3(4(5(6(7(8(9(10(11(12 13 14))))))))))))", 15);
    }

    private static void fault(String text, int kind, int place) {
        BranchSums x = Check.rolled("0(1(3)2);1:9x3;3:5x10;2:5x7");
        due("14: '" + text + "'", Check.read(x, text), NONE);
        due("15: kind of '" + text + "'", x.fault(0), kind);
        due("15: place of '" + text + "'", x.fault(1), place);
        due("14: all stays", x.look(0) * 1000 + x.look(1) + x.look(5) * 10 + x.versions(0), 15021);
        due("14: entries stay", x.look(7) + x.of(0, 5, 1), 37);
        due("14: the tape is empty", x.look(6), 0);
    }

    private static void faultsOfSigns() {
        fault("", 1, 0);
        fault("   ", 1, 3);
        fault(" x", 1, 1);
        fault("0 0", 1, 2);
        fault("0(", 1, 2);
        fault("0()", 1, 2);
        fault("0( )", 1, 3);
        fault("0(1", 1, 3);
        fault("0(1  ", 1, 5);
        fault("0(1)(2)", 1, 4);
        fault("0(1(2)(3))", 1, 6);
        fault("0(1)2", 1, 4);
        fault("0(1))", 1, 4);
        fault("0(1,2)", 1, 3);
        fault("0(1;2)", 1, 3);
        fault("0)", 1, 1);
        fault(";", 1, 0);
        fault("0;;", 1, 2);
        fault("0;0", 1, 3);
        fault("0;0:", 1, 4);
        fault("0;0:5", 1, 5);
        fault("0;0:5y1", 1, 5);
        fault("0;0:5x", 1, 6);
        fault("0;0:5x-1", 1, 6);
        fault("0;0:5x1,", 1, 8);
        fault("0;0:5x1,;", 1, 8);
        fault("0;0:5x1 6x1", 1, 8);
        fault("0;0:5x1;;", 1, 8);
        fault("0;0:5x1:", 1, 7);
        fault("0;0 5x1", 1, 4);
        fault("0\t", 1, 1);
        fault("0\u00ff", 1, 1);
        fault("0\u0000", 1, 1);
        fault("0;0:5X1", 1, 5);
    }

    private static void faultsOfNumbers() {
        fault("1", 2, 0);
        fault(" 7", 2, 1);
        fault("24", 2, 0);
        fault("0(24)", 2, 2);
        fault("0(99999999999999999999)", 2, 2);
        fault("0(4294967297)", 2, 2);
        fault("4294967296", 2, 0);
        fault("0;1:5x1", 2, 2);
        fault("0(1); 2:5x1", 2, 6);
        fault("0;24:5x1", 2, 2);
        fault("0;4294967296:5x1", 2, 2);
        fault("0;0:64x1", 2, 4);
        fault("0;0: 64x1", 2, 5);
        fault("0;0:4294967296x1", 2, 4);
        fault("0;0:5x0", 2, 6);
        fault("0;0:5x10000", 2, 6);
        fault("0;0:5x4294967297", 2, 6);
        fault("0(0)", 3, 2);
        fault("0(1 1)", 3, 4);
        fault("0(1(2)3 02)", 3, 8);
        fault("0;0:5x1,5x2", 3, 8);
        fault("0;0:5x1;0:6x1,05x2", 3, 14);
        fault("0(1 1;;", 3, 4);
        fault("0(25 (", 2, 2);
        fault("0;0:64", 2, 4);
        fault("0;0:5x1,5y", 3, 8);
        String deep = "0(1(2(3(4(5(6(7(8(9(10(11(12(";
        fault(deep + "13", 4, 29);
        fault(deep + " 13)))))))))))))", 4, 30);
        fault(deep + "24", 2, 29);
        fault(deep + "7", 3, 29);
        fault(deep + ")", 1, 29);
    }

    private static void promise15() {
        BranchSums x = new BranchSums();
        Check.read(x, "0(");
        due("15: fault", x.fault(0) * 10 + x.fault(1), 12);
        due("15: what 2", x.fault(2), NONE);
        due("15: what -1", x.fault(-1), NONE);
        due("15: what greatest", x.fault(MAX), NONE);
        Check.read(x, "0");
        due("15: of the latest", x.fault(0), 0);
        due("15: no place", x.fault(1), NONE);
        x.text();
        due("15: of an empty tape", x.fault(0) * 10 + x.fault(1), 10);
    }

    private static void longestText() {
        StringBuilder s = new StringBuilder("0(1);0:");
        for (int c = 0; s.length() < 390; c++) s.append(c > 0 ? "," : "").append(c).append("x").append(c + 1000);
        while (s.length() < 400) s.append(' ');
        BranchSums x = new BranchSums();
        due("14: 400 bytes", Check.read(x, s.toString()), 2);
        due("14: an entry far behind", x.of(0, 45, 0), 1045);
        Check.read(x, " ".repeat(400));
        due("15: the text's length", x.fault(1), 400);
        due("14: 400 digits", Check.read(x, "0".repeat(400)), 1);
        due("15: 400 digits", Check.read(x, "0;" + "1".repeat(398)) + x.fault(0) * 10 + x.fault(1), 21);
        due("14: 398 entries", Check.read(x, "0;0:1x1" + ";0:2x1".repeat(65)), NONE);
        due("15: told already", x.fault(0) * 100 + x.fault(1), 316);
    }

    public static void main(String[] args) {
        promise9();
        promise10();
        promise11();
        promise12();
        promise13();
        promise14();
        promise14Texts();
        faultsOfSigns();
        faultsOfNumbers();
        promise15();
        longestText();
        Check.close("TellingTest");
    }
}

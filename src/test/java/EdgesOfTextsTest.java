/** "Terms", part 3, with promises 14 and 15: what a TEXT may be, its FAULTS and their places. */
public final class EdgesOfTextsTest {
    private static final int NONE = BranchSums.NONE;
    private static final String DIGITS = "0123456789";
    private static final int TEXTS_OF_ONE = 50;

    private static BranchSums reader = new BranchSums();
    private static int texts = 0;

    private static void due(String call, long got, long want) {
        Check.due(call, got, want);
    }

    /** One object reads several texts, each without anything of those ahead, within its 512 calls. */
    private static int read(String text) {
        int calls = text.length() / 20 + 8;
        texts += calls;
        if (texts > 400) {
            reader = new BranchSums();
            texts = calls;
        }
        return Check.read(reader, text);
    }

    private static void told(String text, int units) {
        due("'" + text + "'", read(text), units);
        due("'" + text + "', no fault", reader.fault(0), 0);
        due("'" + text + "', no place", reader.fault(1), NONE);
    }

    private static void fault(String text, int kind, int place) {
        due("'" + text + "'", read(text), NONE);
        due("'" + text + "', fault", reader.fault(0), kind);
        due("'" + text + "', place", reader.fault(1), place);
    }

    // ---- "1 what can't stand there": each of the 256 bytes and the end behind each kind of sign

    private static void standsBehind(String ahead, String signs, boolean end) {
        for (int b = 0; b < 256; b++) {
            String text = ahead + (char) b;
            boolean can = signs.indexOf(b) >= 0;
            read(text);
            boolean refused = reader.fault(0) == 1 && reader.fault(1) == ahead.length();
            Check.due("byte " + b + " behind '" + ahead + "' is a fault 1 there", refused, !can);
        }
        if (end) told(ahead, 1 + Math.min(ahead.length() - ahead.replace("(", "").length(), 23));
        else fault(ahead, 1, ahead.length());
    }

    private static void eachByteInOrg() {
        standsBehind("", DIGITS + " ", false);
        standsBehind("  ", DIGITS + " ", false);
        standsBehind("0", DIGITS + " (;", true);
        standsBehind("0 ", " (;", true);
        standsBehind("0(", DIGITS + " ", false);
        standsBehind("0( ", DIGITS + " ", false);
        standsBehind("0(1", DIGITS + " ()", false);
        standsBehind("0(1 ", DIGITS + " ()", false);
        standsBehind("0(1)", " ;", true);
        standsBehind("0(1) ", " ;", true);
        standsBehind("0(1(2", DIGITS + " ()", false);
        standsBehind("0(1(2)", DIGITS + " )", false);
        standsBehind("0(1(2) ", DIGITS + " )", false);
        standsBehind("0(1(2))", " ;", true);
    }

    private static void eachByteInEntries() {
        standsBehind("0;", DIGITS + " ", true);
        standsBehind("0; ", DIGITS + " ", true);
        standsBehind("0;0", DIGITS + " :", false);
        standsBehind("0;0 ", " :", false);
        standsBehind("0;0:", DIGITS + " ", false);
        standsBehind("0;0: ", DIGITS + " ", false);
        standsBehind("0;0:5", DIGITS + " x", false);
        standsBehind("0;0:5 ", " x", false);
        standsBehind("0;0:5x", DIGITS + " ", false);
        standsBehind("0;0:5x ", DIGITS + " ", false);
        standsBehind("0;0:5x1", DIGITS + " ,;", true);
        standsBehind("0;0:5x1 ", " ,;", true);
        standsBehind("0;0:5x1,", DIGITS + " ", false);
        standsBehind("0;0:5x1,6", DIGITS + " x", false);
        standsBehind("0;0:5x1,6x", DIGITS + " ", false);
        standsBehind("0;0:5x1,6x2", DIGITS + " ,;", true);
        standsBehind("0;0:5x1;", DIGITS + " ", true);
        standsBehind("0;0:5x1;0", DIGITS + " :", false);
        standsBehind("0;0:5x1;0:6x1;", DIGITS + " ", true);
    }

    // ---- "org { ";" entry } [ ";" ]"

    private static void semicolons() {
        told("0", 1);
        told("0;", 1);
        fault("0;;", 1, 2);
        fault(";0", 1, 0);
        told("0;0:1x1", 1);
        told("0;0:1x1;", 1);
        fault("0;0:1x1;;", 1, 8);
        told("0;0:1x1;0:2x1", 1);
        told("0;0:1x1;0:2x1;", 1);
        fault("0;;0:1x1", 1, 2);
        fault("0 0:1x1", 1, 2);
        fault("0;0:1x1 0:2x1", 1, 8);
        fault("0:1x1", 1, 1);
    }

    // ---- "N is 0; another one is a 2"

    private static void theHeadIsTold() {
        told("0", 1);
        told("00", 1);
        told("0000000000000000000000", 1);
        fault("1", 2, 0);
        fault("01", 2, 0);
        fault("10", 2, 0);
        fault("23", 2, 0);
        fault("24", 2, 0);
        fault("  2", 2, 2);
        fault("4294967296", 2, 0);
        fault("18446744073709551616", 2, 0);
        fault("1(", 2, 0);
    }

    // ---- "below = "(" unit { unit } ")"": one at least

    private static void unitsBelow() {
        fault("0()", 1, 2);
        told("0(1)", 2);
        told("0(1 2)", 3);
        told("0(12)", 2);
        fault("0(1())", 1, 4);
        told("0(1(2))", 3);
        told("0(1(2)3)", 4);
        due("3 is right below the head", reader.unit(3, 0), 0);
        told("0(1(2 3))", 4);
        due("3 is right below 1", reader.unit(3, 0), 1);
        told("0(1(2(3)4)5)", 6);
        due("4 is right below 1", reader.unit(4, 0), 1);
        due("5 is right below the head", reader.unit(5, 0), 0);
        fault("0((1))", 1, 2);
        fault("0(1(2)(3))", 1, 6);
        fault("0(1)(2)", 1, 4);
        fault("0(1", 1, 3);
        fault("0(1(2)", 1, 6);
        fault("0(1))", 1, 4);
    }

    private static void allUnitsAreTold() {
        StringBuilder s = new StringBuilder("0(");
        for (int u = 23; u >= 1; u--) s.append(u).append(u % 5 == 0 ? "  " : " ");
        told(s + ")", 24);
        due("all are there", reader.look(0), (1 << 24) - 1);
        due("all are stale", reader.look(1), (1 << 24) - 1);
        fault(s + "24)", 2, s.length());
        fault(s + "1)", 3, s.length());
        fault(s + "0)", 3, s.length());
    }

    // ---- "2 a number that can't be (a UNIT that there is not in an entry, too)"

    private static void numbersOfUnits() {
        told("0(23)", 2);
        fault("0(24)", 2, 2);
        fault("0(25)", 2, 2);
        told("0(0000000000000000000000023)", 2);
        for (String n : HUGE) fault("0(" + n + ")", 2, 2);
        told("0(23);23:1x1", 2);
        fault("0(23);22:1x1", 2, 6);
        fault("0(23);24:1x1", 2, 6);
        told("0(23);0:1x1", 2);
        fault("0(23);1:1x1", 2, 6);
        fault("0;1:1x1", 2, 2);
        for (String n : HUGE) fault("0(1);" + n + ":1x1", 2, 5);
    }

    /** Numbers that would be 0, 1 or 5 in a number of fewer bits. */
    private static final String[] HUGE = {
        "256", "257", "65536", "65537", "2147483647", "2147483648", "2147483649", "4294967295", "4294967296", "4294967297",
        "4294967301", "9223372036854775807", "9223372036854775808", "18446744073709551616", "18446744073709551617",
        "340282366920938463463374607431768211457", "10000000000000000000000000000000000000000"
    };

    private static void numbersOfCategories() {
        told("0;0:0x1", 1);
        due("category 0", reader.of(0, 0, 0), 1);
        told("0;0:63x1", 1);
        due("category 63", reader.of(0, 63, 0), 1);
        fault("0;0:64x1", 2, 4);
        fault("0;0:65x1", 2, 4);
        fault("0;0:5x1,64x1", 2, 8);
        told("0;0:00000000000000000000063x1", 1);
        for (String n : HUGE) fault("0;0:" + n + "x1", 2, 4);
        for (String n : HUGE) fault("0;0:" + n, 2, 4);
    }

    private static void numbersOfEntries() {
        told("0;0:5x1", 1);
        due("1 more", reader.of(0, 5, 0), 1);
        fault("0;0:5x0", 2, 6);
        fault("0;0:5x000", 2, 6);
        told("0;0:5x9998", 1);
        told("0;0:5x9999", 1);
        due("9999 more", reader.of(0, 5, 0), 9999);
        fault("0;0:5x10000", 2, 6);
        fault("0;0:5x10001", 2, 6);
        fault("0;0:5x1,6x0", 2, 10);
        told("0;0:5x000000000000000000009999", 1);
        due("as many digits as stand there", reader.of(0, 5, 0), 9999);
        for (String n : HUGE) {
            if (n.length() > 5) fault("0;0:5x" + n, 2, 6);
        }
        fault("0;0:5x65537", 2, 6);
        fault("0;0:5x-1", 1, 6);
        fault("0;0:5x+1", 1, 6);
    }

    // ---- "3 a UNIT told already in org, or a CATEGORY told already for that UNIT"

    private static void toldAlready() {
        fault("0(0)", 3, 2);
        fault("0(1 1)", 3, 4);
        fault("0(1(1))", 3, 4);
        fault("0(1(2)2)", 3, 6);
        fault("0(1(2(0)))", 3, 6);
        fault("0(1 01)", 3, 4);
        told("0(1 2);1:5x1,6x1;2:5x1", 3);
        fault("0;0:5x1,5x1", 3, 8);
        fault("0;0:5x1,05x1", 3, 8);
        fault("0;0:5x1;0:5x1", 3, 10);
        fault("0(1);1:5x1;0:5x1;1:6x1,5x1", 3, 23);
        told("0(1);1:5x1;0:5x1;1:6x1,4x1", 2);
        fault("0;0:0x1,0x1", 3, 8);
        fault("0;0:63x9999,63x1", 3, 12);
        // What a text that had a fault told is told no more.
        told("0;0:5x1", 1);
    }

    // ---- "4 a DEPTH above 12 (at the UNIT)"; "at one place the least"

    private static String stair(int depth) {
        StringBuilder s = new StringBuilder("0");
        for (int u = 1; u <= depth; u++) s.append("(").append(u);
        return s.toString();
    }

    private static void depths() {
        told(stair(11) + ")))))))))))", 12);
        told(stair(12) + "))))))))))))", 13);
        due("the greatest depth", reader.look(4), 12);
        String deep = stair(12);
        int at = deep.length() + 1;
        fault(deep + "(13)))))))))))))", 4, at);
        fault(deep + "(  13)))))))))))))", 4, at + 2);
        fault(deep + "(13", 4, at);
        fault(deep + "(23", 4, at);
        fault(deep + "(24", 2, at);
        fault(deep + "(999999999999", 2, at);
        fault(deep + "(12", 3, at);
        fault(deep + "(0", 3, at);
        fault(deep + "(", 1, at);
        fault(deep + "()", 1, at);
        told(deep + " 13)14)15)" + ")".repeat(9), 16);
        due("13 is at depth 12", reader.unit(13, 1), 12);
        due("14 is at depth 11", reader.unit(14, 1), 11);
        due("15 is at depth 10", reader.unit(15, 1), 10);
        fault(deep + " 13(14", 4, deep.length() + 4);
        fault(deep + ")13(14(15", 4, deep.length() + 7);
    }

    // ---- "FAULTS, the first by its place (from 0; the end: the text's length)"

    private static void theFirstByItsPlace() {
        fault("0(1 1 24", 3, 4);
        fault("0(24 1 1", 2, 2);
        fault("0(1 ! 24", 1, 4);
        fault("0;0:64x0", 2, 4);
        fault("0;0:5x0,5x1", 2, 6);
        fault("0;0:5x1,5x0", 3, 8);
        fault("0;1:5x1;;", 2, 2);
        fault("0;;1:5x1", 1, 2);
        fault("1;;", 2, 0);
        fault("x1", 1, 0);
        fault("", 1, 0);
        fault(" ", 1, 1);
        fault("0(", 1, 2);
        fault("0(   ", 1, 5);
        fault("0;0:5x1,", 1, 8);
        fault("0;0:5x1,   ", 1, 11);
        fault("24(", 2, 0);
        fault("0(24(", 2, 2);
    }

    // ---- "digits, as many as stand there; blanks (32) may stand ahead of all and at the end"

    private static void blanks() {
        String[] parts = {"0", "(", "1", "(", "2", ")", "3", ")", ";", "1", ":", "5", "x", "6", ",", "7", "x", "8", ";"};
        for (int i = 0; i <= parts.length; i++) {
            for (int n = 1; n <= 21; n += 20) {
                StringBuilder s = new StringBuilder();
                for (int k = 0; k < parts.length; k++) s.append(k == i ? " ".repeat(n) : "").append(parts[k]);
                if (i == parts.length) s.append(" ".repeat(n));
                told(s.toString(), 4);
                due("entries", reader.of(1, 5, 0) * 10 + reader.of(1, 7, 0), 68);
            }
        }
        fault("0(1);1:5x1 2", 1, 11);
        fault("0(1);1 1:5x1", 1, 7);
        fault("0(1);1:1 5x1", 1, 9);
        told("0(1 2)", 3);
        told("0(1\u0020\u0020\u00202)", 3);
        fault("0(1\t2)", 1, 3);
        fault("0(1\n2)", 1, 3);
        fault("0(1\u00a02)", 1, 3);
    }

    // ---- "THE TAPE, 400 bytes at most": texts of just that length

    private static void longestTexts() {
        told("0".repeat(400), 1);
        told(" ".repeat(399) + "0", 1);
        told("0" + " ".repeat(399), 1);
        fault(" ".repeat(400), 1, 400);
        fault("0(" + " ".repeat(398), 1, 400);
        fault("0" + " ".repeat(398) + "!", 1, 399);
        fault("0(" + "9".repeat(398), 2, 2);
        fault("0;0:5x" + "0".repeat(394), 2, 6);
        told("0;0:5x" + "0".repeat(390) + "9999", 1);
        due("its entries", reader.of(0, 5, 0), 9999);
        fault("0;0:5x" + "0".repeat(389) + "10000", 2, 6);
        StringBuilder s = new StringBuilder("0;0:");
        for (int c = 0; c < 64; c++) s.append(c > 0 ? "," : "").append(c).append("x").append(c + 1);
        told(s.toString(), 1);
        due("all categories", reader.look(9), 0);
        due("all entries", reader.look(7), 64 * 65 / 2);
        StringBuilder t = new StringBuilder("0");
        for (int c = 0; c < 56; c++) t.append(";0:").append(c).append("x1");
        told(t.toString(), 1);
        due("each by itself", reader.look(7), 56);
    }

    // ---- promise 14: "how many UNITS"; "All is as told then"; "NONE, and all else stays"

    private static BranchSums withTape(BranchSums x, String text) {
        Check.tape(x, text);
        return x;
    }

    private static void allIsAsTold() {
        BranchSums x = withTape(Sight.SCENE.make(), "0(9);9:63x9999");
        long counts = x.count(0) + x.count(6) + x.count(7);
        due("text()", x.text(), 2);
        due("units", x.look(0), 1 + (1 << 9));
        due("stale", x.look(1), 1 + (1 << 9));
        due("greatest depth", x.look(4), 1);
        due("no sums", x.look(8), 0);
        due("entries", x.look(7), 9999);
        due("nobody has others", x.look(9), 63);
        for (int u = 0; u < 24; u++) due("versions", x.versions(u), u == 0 || u == 9 ? 0 : NONE);
        due("acts", x.look(5), 10);
        due("limits", x.look(10), 5);
        due("none is broken", x.look(11), 0);
        due("state", x.state(1), 12345);
        due("not counted", x.count(0) + x.count(6) + x.count(7), counts);
        due("the chosen report", x.sign(0), '0');
        due("the tape", x.look(6), 0);
        due("other than in the image", x.look(12), (1 << 1) + (1 << 2) + (1 << 3) + (1 << 4) + (1 << 6) + (1 << 9) + (1 << 23));
        due("no fault", x.fault(0), 0);
        due("undone", x.undo(), 9);
        due("as it was", x.look(0), Sight.SCENE.make().look(0));
        due("the tape stays empty", x.look(6), 0);
    }

    /** SCENE has the fault 1 at place 2 already, so that nothing but THE TAPE is another one then. */
    private static void allElseStays() {
        Sight.Maker empty = () -> {
            BranchSums x = Sight.SCENE.make();
            x.end(0);
            return x;
        };
        for (String text : new String[] {"0(", "0;;", "00!;0:5x1", "0(;", "0;:"}) {
            Sight.Maker read = () -> {
                BranchSums x = withTape(Sight.SCENE.make(), text);
                due("'" + text + "'", x.text(), NONE);
                return x;
            };
            Sight.same("behind '" + text + "'", read, empty);
        }
        for (String text : new String[] {"", "0(1(2 3(4))5);1:5x9999;5:63x1,", "1", "0;0:5x1,5x1", stair(12) + "(13"}) {
            Sight.sameOrg("behind '" + text + "'", () -> {
                BranchSums x = withTape(Sight.SCENE.make(), text);
                due("'" + text + "'", x.text(), NONE);
                return x;
            }, Sight.SCENE);
        }
    }

    // ---- promise 15: "Of the latest text() what 0 FAULT (0 without), 1 its place (NONE)"

    private static void ofTheLatest() {
        BranchSums x = new BranchSums();
        due("no text yet", x.fault(0), 0);
        due("no place yet", x.fault(1), NONE);
        due("of nothing", x.text(), NONE);
        due("fault", x.fault(0), 1);
        due("at 0", x.fault(1), 0);
        Check.read(x, "0(24)");
        due("fault", x.fault(0), 2);
        due("place", x.fault(1), 2);
        x.add(0, 0, 1);
        x.image(true);
        x.undo();
        x.image(false);
        x.feed(1, 2, 3, 4, 5);
        due("it stays", x.fault(0) * 10 + x.fault(1), 22);
        Check.read(x, "0");
        due("without", x.fault(0), 0);
        due("no place", x.fault(1), NONE);
        for (int w : Sight.outside(0, 1)) due("what " + w, x.fault(w), NONE);
    }

    public static void main(String[] args) {
        eachByteInOrg();
        eachByteInEntries();
        semicolons();
        theHeadIsTold();
        unitsBelow();
        allUnitsAreTold();
        numbersOfUnits();
        numbersOfCategories();
        numbersOfEntries();
        toldAlready();
        depths();
        theFirstByItsPlace();
        blanks();
        longestTexts();
        allIsAsTold();
        allElseStays();
        ofTheLatest();
        Check.close("EdgesOfTextsTest");
    }
}

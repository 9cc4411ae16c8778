/** Promises 9 to 13: LIMITS, those that are BROKEN, STATE and THE TAPE at the bounds that they name. */
public final class EdgesOfTellingTest {
    private static final int NONE = BranchSums.NONE;

    private static void due(String call, long got, long want) {
        Check.due(call, got, want);
    }

    private static void due(String call, boolean got, boolean want) {
        Check.due(call, got, want);
    }

    // ---- 9: "A LIMIT (n NONE: it is none any more): how many there are; NONE if one can't be"

    private static void spansOfLimits() {
        BranchSums x = new BranchSums();
        due("unit 0", x.limit(0, 0, 0, 0), 1);
        due("unit 23, not there", x.limit(23, 0, 63, 0), 2);
        due("low is high", x.limit(0, 63, 63, 0), 3);
        due("high just above low", x.limit(0, 62, 63, 0), 4);
        due("low just above high", x.limit(0, 63, 62, 0), NONE);
        due("low just above high", x.limit(0, 1, 0, 0), NONE);
        due("unit -1", x.limit(-1, 0, 63, 0), NONE);
        due("unit 24", x.limit(24, 0, 63, 0), NONE);
        due("low -1", x.limit(0, -1, 63, 0), NONE);
        due("high 64", x.limit(0, 0, 64, 0), NONE);
        due("n 0", x.limit(1, 0, 5, 0), 5);
        due("n 1", x.limit(1, 0, 6, 1), 6);
        due("n 999998", x.limit(1, 0, 7, 999998), 7);
        due("n 999999", x.limit(1, 0, 8, 999999), 8);
        due("n 1000000", x.limit(1, 0, 9, 1000000), NONE);
        due("n 1000000 of one that there is", x.limit(1, 0, 8, 1000000), NONE);
        due("n NONE of none such", x.limit(1, 0, 9, NONE), NONE);
        due("n NONE - 1", x.limit(1, 0, 8, NONE - 1), NONE);
        due("n NONE", x.limit(1, 0, 8, NONE), 7);
        due("none such any more", x.limit(1, 0, 8, NONE), NONE);
        due("how many", x.look(10), 7);
        due("no acts", x.look(5), 0);
    }

    private static BranchSums limited(int count) {
        BranchSums x = new BranchSums();
        for (int i = 0; i < count; i++) x.limit(i, i, 63, i);
        return x;
    }

    private static void twelveLimits() {
        for (int i = 0; i <= 12; i++) due("how many", limited(i).look(10), i);
        due("a twelfth", limited(11).limit(23, 0, 0, 5), 12);
        Sight.stays("a thirteenth", () -> limited(12), NONE, x -> x.limit(23, 0, 0, 5));
        Sight.stays("a thirteenth of another span", () -> limited(12), NONE, x -> x.limit(0, 0, 62, 5));
        BranchSums y = limited(12);
        y.limit(23, 0, 0, 5);
        due("it is none", y.limit(23, 0, 0, NONE), NONE);
        for (int i = 0; i < 12; i++) due("all others are", y.limit(i, i, 63, NONE), 11 - i);
        BranchSums x = limited(12);
        due("a later n of one", x.limit(11, 11, 63, 9), 12);
        due("of the first", x.limit(0, 0, 63, 9), 12);
        due("one is none any more", x.limit(5, 5, 63, NONE), 11);
        due("it again", x.limit(5, 5, 63, 1), 12);
        due("a thirteenth still", x.limit(5, 5, 62, 1), NONE);
        for (int i = 0; i < 12; i++) due("none any more", x.limit(i, i, 63, NONE), 11 - i);
        due("none", x.look(10), 0);
    }

    /** "A LIMIT told for a UNIT and span that has one: the later n." */
    private static void theLaterN() {
        BranchSums x = Check.rolled("0(1);0:4x1,5x10,6x1;1:5x7");
        x.limit(0, 5, 5, 20);
        due("the same", x.limit(0, 5, 5, 10), 1);
        due("by the later one", x.broken(0, 1), 7);
        due("another low", x.limit(0, 4, 5, 17), 2);
        due("another high", x.limit(0, 5, 6, 17), 3);
        due("another unit", x.limit(1, 5, 5, 6), 4);
        int[][] want = {{0, 7}, {0, 1}, {0, 1}, {1, 1}};
        for (int i = 0; i < 4; i++) {
            due("unit of " + i, x.broken(i, 0), want[i][0]);
            due("by how much " + i, x.broken(i, 1), want[i][1]);
        }
        due("the later n again", x.limit(0, 5, 5, 17), 4);
        due("not broken any more", x.broken(NONE, 0), 3);
        due("then the next ones", x.broken(2, 0), 1);
        due("n 0", x.limit(0, 5, 5, 0), 4);
        due("broken by all", x.broken(0, 1), 17);
    }

    /** One of several is none any more: all others are as they were, in their order. */
    private static void oneOfSeveral() {
        for (int gone = 0; gone < 12; gone++) {
            BranchSums x = Check.rolled("0;0:0x1000,5x2000");
            for (int i = 0; i < 12; i++) x.limit(0, 0, 63 - i, 100 * i);
            due("none any more, " + gone, x.limit(0, 0, 63 - gone, NONE), 11);
            for (int i = 0; i < 11; i++) due("by how much " + i + " without " + gone, x.broken(i, 1), 3000 - 100 * (i < gone ? i : i + 1));
            due("none behind them", x.broken(11, 1), NONE);
            for (int i = 0; i < 12; i++) {
                if (i != gone) due("the later n of " + i, x.limit(0, 0, 63 - i, 2999), 11);
            }
            for (int i = 0; i < 11; i++) due("by how much then", x.broken(i, 1), 1);
            due("it again, the last one", x.limit(0, 0, 63 - gone, 7), 12);
            due("by how much", x.broken(11, 1), 2993);
        }
    }

    private static void limitOf(BranchSums x, int i, int n) {
        x.limit(i % 2, 4 * i, 63 - i, n);
    }

    /** What stands behind the one that is none any more keeps its UNIT, both ends of its span and its n. */
    private static void wholeLimitsAreKept() {
        StringBuilder entries = new StringBuilder();
        for (int i = 0; i < 12; i++) entries.append(i > 0 ? "," : "").append(4 * i).append("x").append(i % 5 + 1);
        for (int c = 52; c < 64; c++) entries.append(",").append(c).append("x").append(c % 7 + 1);
        String text = "0(1);0:" + entries + ";1:" + entries;
        for (int gone = 0; gone < 12; gone++) {
            BranchSums x = Check.rolled(text);
            for (int i = 0; i < 12; i++) limitOf(x, i, i % 3);
            limitOf(x, gone, NONE);
            int at = 0;
            for (int i = 0; i < 12; i++) {
                if (i == gone) continue;
                int in = x.less(i % 2, 64 - i) - x.less(i % 2, 4 * i);
                due("the unit of " + i + " without " + gone, x.broken(at, 0), i % 2);
                due("by how much " + i + " is broken", x.broken(at, 1), in - i % 3);
                at++;
            }
            due("none behind them", x.broken(at, 1), NONE);
        }
    }

    // ---- 10: "BROKEN: the UNIT is there, its SUM has more in that span"

    private static void justMoreThanThat() {
        for (int n = 0; n <= 20; n++) {
            BranchSums x = Check.rolled("0;0:9x100,10x5,20x7,30x6,31x100");
            x.limit(0, 10, 30, n);
            due("broken at " + n, x.broken(NONE, 0), n < 18 ? 1 : 0);
            due("look(11) at " + n, x.look(11), n < 18 ? 1 : 0);
            due("by how much at " + n, x.broken(0, 1), n < 18 ? 18 - n : NONE);
            due("the unit at " + n, x.broken(0, 0), n < 18 ? 0 : NONE);
        }
        BranchSums x = Check.rolled("0;0:0x3,63x4");
        x.limit(0, 0, 0, 2);
        x.limit(0, 63, 63, 3);
        x.limit(0, 1, 62, 0);
        x.limit(0, 0, 63, 6);
        int[] by = {1, 1, 1, NONE};
        for (int i = 0; i < 4; i++) due("by how much", x.broken(i, 1), by[i]);
    }

    private static void theUnitIsThere() {
        BranchSums x = Check.rolled("0(1);1:5x3");
        x.limit(1, 0, 63, 0);
        x.limit(2, 0, 63, 0);
        due("one that is there", x.broken(NONE, 0), 1);
        x.goes(1);
        due("one that went", x.broken(NONE, 0), 0);
        due("none such", x.broken(0, 0), NONE);
        x.comes(1, 0);
        x.comes(2, 0);
        due("without entries", x.broken(NONE, 0), 0);
        x.add(2, 5, 1);
        due("as it was rolled up", x.broken(NONE, 0), 0);
        x.roll(2);
        due("then", x.broken(0, 0), 2);
        x.undo();
        due("undone", x.broken(NONE, 0), 0);
    }

    private static void theIthOfThem() {
        for (int count = 0; count <= 12; count++) {
            BranchSums x = Check.rolled("0;0:5x100");
            for (int i = 0; i < count; i++) x.limit(0, 5 - i % 6, 5 + i / 6, 50 + i);
            due("how many", x.broken(NONE, 7), count);
            for (int i = 0; i < count; i++) due("by how much", x.broken(i, 1), 50 - i);
            due("none behind the last", x.broken(count, 1), NONE);
            due("nor ahead of i NONE", x.broken(NONE - 1, 1), NONE);
        }
        BranchSums x = Check.rolled("0;0:5x100");
        x.limit(0, 5, 5, 1);
        due("what 0", x.broken(0, 0), 0);
        due("what 1", x.broken(0, 1), 99);
        due("what 2", x.broken(0, 2), NONE);
        due("what -1", x.broken(0, -1), NONE);
        for (int w : Sight.outside(0, 0)) due("i NONE, what " + w, x.broken(NONE, w), 1);
    }

    // ---- 11: "STATE is told: what it was"

    private static void anyState() {
        int[] values = Sight.outside(0, -1);
        BranchSums x = new BranchSums();
        int was = 0;
        for (int v : values) {
            due("state(" + v + ")", x.state(v), was);
            was = v;
        }
        due("the last", x.state(0), was);
        BranchSums y = new BranchSums();
        y.state(Sight.MIN);
        due("no act", y.look(5), 0);
        due("NONE is one, too", y.state(NONE), Sight.MIN);
        due("NONE was told", y.state(NONE), NONE);
    }

    // ---- 12: "Twenty bytes come behind THE TAPE, of each number the highest first"

    /** Twenty blanks but one byte: what text() says of it tells where it stands and which it is. */
    private static void eachByteAtEachPlace() {
        for (int place = 0; place < 20; place++) {
            BranchSums x = new BranchSums();
            for (int b = 0; b < 256; b++) {
                if (b % 128 == 0) x = new BranchSums();
                int[] n = {0x20202020, 0x20202020, 0x20202020, 0x20202020, 0x20202020};
                int shift = 24 - place % 4 * 8;
                n[place / 4] = n[place / 4] & ~(255 << shift) | b << shift;
                due("feed", x.feed(n[0], n[1], n[2], n[3], n[4]), 20);
                int kind = b == '0' ? 0 : b > '0' && b <= '9' ? 2 : 1;
                x.text();
                due("fault of byte " + b + " at " + place, x.fault(0), kind);
                due("its place", x.fault(1), kind == 0 ? NONE : b == ' ' ? 20 : place);
            }
        }
    }

    private static BranchSums fed(int times) {
        BranchSums x = new BranchSums();
        for (int i = 0; i < times; i++) x.feed(0x20202020, 0x20202020, 0x20202020, 0x20202020, 0x20202020);
        return x;
    }

    private static void fourHundredBytes() {
        for (int i = 0; i < 20; i++) due("feed behind " + 20 * i, fed(i).feed(0, 0, 0, 0, 0), 20 * i + 20);
        Sight.stays("behind 400", () -> fed(20), NONE, x -> x.feed(0x30202020, 0, 0, 0, 0));
        Sight.stays("any number", () -> fed(20), NONE, Sight.outside(0, -1), (x, v) -> x.feed(v, v, v, v, v));
        for (int n = 378; n <= 400; n++) {
            BranchSums x = fed(20);
            x.end(n);
            due("behind " + n, x.feed(0x20202020, 0x20202020, 0x20202020, 0x20202020, 0x20202030), n <= 380 ? n + 20 : NONE);
            due("bytes", x.look(6), n <= 380 ? n + 20 : n);
            due("the last of them", x.text(), n <= 380 ? 1 : NONE);
            due("emptied", x.feed(0, 0, 0, 0, 0), 20);
        }
    }

    // ---- 13: "THE TAPE has its first n bytes alone: true; false if it has not so many, or n is below 0"

    private static void theFirstBytesAlone() {
        for (int times = 0; times <= 20; times++) {
            int length = 20 * times;
            int all = times;
            due("all of " + length, fed(all).end(length), true);
            due("more than " + length, fed(all).end(length + 1), false);
            BranchSums x = fed(all);
            for (int n : Sight.outside(0, length)) due(length + ", end(" + n + ")", x.end(n), false);
            due("none came or went", x.look(6), length);
            for (int n = length; n >= 0; n--) {
                due("end(" + n + ")", x.end(n), true);
                if (n % 50 == 0) due("bytes", x.look(6), n);
                if (n % 50 == 0) due("not so many any more", x.end(n + 1), false);
                if (all > 10 && n == length - 190) n = 10;
            }
            due("empty", x.end(0), true);
            due("not one", x.end(1), false);
        }
        BranchSums x = new BranchSums();
        Check.tape(x, "0(1 2)   ");
        x.end(3);
        x.feed(0x32292020, 0x20202020, 0x20202020, 0x20202020, 0x20202020);
        due("others behind the first ones", x.text(), 2);
        due("12 it is", x.look(0), 1 + (1 << 12));
    }

    public static void main(String[] args) {
        spansOfLimits();
        twelveLimits();
        theLaterN();
        oneOfSeveral();
        wholeLimitsAreKept();
        justMoreThanThat();
        theUnitIsThere();
        theIthOfThem();
        anyState();
        eachByteAtEachPlace();
        fourHundredBytes();
        theFirstBytesAlone();
        Check.close("EdgesOfTellingTest");
    }
}

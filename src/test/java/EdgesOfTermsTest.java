import java.util.Arrays;

/** "Terms", parts 1, 2 and 4: each bound that they name, at it, right below it and right above it. */
public final class EdgesOfTermsTest {
    private static final int NONE = BranchSums.NONE;
    private static final int ALL_UNITS = (1 << 24) - 1;

    private static void due(String call, long got, long want) {
        Check.due(call, got, want);
    }

    private static void due(String call, boolean got, boolean want) {
        Check.due(call, got, want);
    }

    private static int common(int c, int d) {
        int spans = 0;
        for (int w = 64; w >= 1; w /= 2) {
            if (c / w == d / w) spans++;
        }
        return spans;
    }

    // ---- "UNITS 0 .. 23: UNIT 0 (the HEAD) is always there; others are there or not (at first none is)"

    private static void unitsFrom0To23() {
        BranchSums x = new BranchSums();
        for (int u = 1; u <= 23; u++) due("at first " + u + " is not there", x.unit(u, 1), NONE);
        due("-1 can't come", x.comes(-1, 0), false);
        due("24 can't come", x.comes(24, 0), false);
        for (int u = 23; u >= 1; u--) due(u + " comes", x.comes(u, 0), true);
        due("all are there", x.look(0), ALL_UNITS);
        due("how many", x.look(3), 24);
        due("right below the head", x.unit(0, 2), 23);
        due("in its branch", x.unit(0, 3), 24);
        due("the last of them", x.below(0, 22), 23);
        due("none behind it", x.below(0, 23), NONE);
        due("none can come any more", x.comes(24, 0), false);
        for (int u = 0; u <= 23; u++) due(u + " is there already", x.comes(u, 0), false);
        due("came", x.count(6), 23);
    }

    private static void theHeadIsAlwaysThere() {
        Sight.Maker alone = BranchSums::new;
        Sight.stays("the head can't go", alone, NONE, x -> x.goes(0));
        Sight.stays("nor come", alone, 0, x -> x.comes(0, 0) ? 1 : 0);
        Sight.stays("nor be moved", alone, NONE, x -> x.move(0, 0));
        Sight.stays("nothing is undone", alone, NONE, x -> x.undo());
        BranchSums x = new BranchSums();
        x.comes(1, 0);
        due("the head can't go with one below", x.goes(0), NONE);
        x.goes(1);
        due("nor when that went", x.goes(0), NONE);
        due("it alone", x.look(0), 1);
        Check.read(x, "0");
        due("nor by a text", x.look(0), 1);
    }

    private static void eachBelowAnotherThatIsThere() {
        BranchSums x = new BranchSums();
        due("below one that is not there", x.comes(2, 1), false);
        due("below itself", x.comes(2, 2), false);
        due("1 comes", x.comes(1, 0), true);
        due("below one that is there", x.comes(2, 1), true);
        due("one above another stays", x.goes(1), NONE);
        x.goes(2);
        x.goes(1);
        due("below one that went", x.comes(2, 1), false);
    }

    // ---- "DEPTH: how many are above it (the HEAD 0; 12 at most)"

    private static BranchSums stair(int depth) {
        BranchSums x = new BranchSums();
        for (int u = 1; u <= depth; u++) x.comes(u, u - 1);
        return x;
    }

    private static void depthByComing() {
        for (int depth = 1; depth <= 12; depth++) {
            BranchSums x = stair(depth - 1);
            due("comes to depth " + depth, x.comes(23, depth - 1), true);
            due("its depth", x.unit(23, 1), depth);
            due("the greatest depth", x.look(4), depth);
            due("the head's depth", x.unit(0, 1), 0);
        }
        Sight.stays("comes to depth 13", () -> stair(12), 0, x -> x.comes(23, 12) ? 1 : 0);
    }

    /** A stair of eleven below the head, and another one of UNIT 12 with some below it. */
    private static BranchSums twoStairs(int height) {
        BranchSums x = stair(11);
        x.comes(12, 0);
        for (int i = 1; i <= height; i++) x.comes(12 + i, 11 + i);
        return x;
    }

    private static void depthByMoving() {
        for (int h = 0; h <= 11; h++) {
            int height = h;
            for (int to = 1; to <= 11; to++) {
                BranchSums x = twoStairs(height);
                boolean can = to + 1 + height <= 12;
                String call = "moved with " + height + " below it to depth " + (to + 1);
                due(call + " in thought", x.would(12, to, 3) != NONE, can);
                due(call, x.move(12, to), can ? height + 1 : NONE);
                due(call + ", the deepest one's depth", x.unit(12 + height, 1), can ? to + 1 + height : height + 1);
            }
            int over = 12 - height;
            if (over <= 11) Sight.stays("moved to depth 13 with " + height, () -> twoStairs(height), NONE, x -> x.move(12, over));
        }
    }

    /** The deepest one of a branch counts, wherever it stands in it. */
    private static void depthOfTheDeepest() {
        String[] branches = {"(13 14(15)16)", "(13(14) 15 16)", "(13 15 16(14))", "(20(1) 13 16)"};
        for (String branch : branches) {
            for (int to = 8; to <= 11; to++) {
                BranchSums x = new BranchSums();
                StringBuilder text = new StringBuilder("0(12").append(branch);
                for (int u = 2; u <= to; u++) text.append(u > 2 ? "(" : " ").append(u);
                text.append(")".repeat(to - 1));
                due("the text " + text, Check.read(x, text.toString()) > 0, true);
                // UNIT to is at depth to - 1; the deepest of the branch is two below its top.
                due(branch + " below depth " + (to - 1), x.move(12, to) != NONE, to - 1 + 3 <= 12);
            }
        }
    }

    /** How deep others are, beside the branch that is moved, tells nothing. */
    private static void depthBesideTheBranch() {
        for (int top = 13; top <= 23; top++) {
            BranchSums x = stair(12);
            x.comes(top, 0);
            for (int u = 13; u <= 23; u++) {
                if (u != top) x.comes(u, 11);
            }
            due(top + " below the eleventh", x.move(top, 11), 1);
            due(top + " below the twelfth", x.move(top, 12), NONE);
            due("the depth of " + top, x.unit(top, 1), 12);
        }
    }

    private static void depthByTexts() {
        StringBuilder text = new StringBuilder("0");
        for (int u = 1; u <= 12; u++) text.append("(").append(u);
        BranchSums x = new BranchSums();
        due("a text of depth 12", Check.read(x, text + ")))))))))))) "), 13);
        due("its depth", x.look(4), 12);
        due("a text of depth 13", Check.read(x, text + "(13)))))))))))))"), NONE);
        due("a fault 4 at the unit", x.fault(0) * 1000 + x.fault(1), 4000 + text.length() + 1);
        due("beside the deepest one", Check.read(x, text + " 13 14))))))))))))"), 15);
    }

    // ---- "BRANCH of a UNIT: it and all below it"

    private static void aBranchIsWithItself() {
        BranchSums x = stair(12);
        for (int u = 0; u <= 12; u++) due("in the branch of " + u, x.unit(u, 3), 13 - u);
        due("alone", new BranchSums().unit(0, 3), 1);
    }

    // ---- "CATEGORIES 0 .. 63. OWN of a UNIT: of each CATEGORY 0 .. 9999 (0 as it comes)"

    private static void categoriesFrom0To63() {
        BranchSums x = new BranchSums();
        for (int c = 0; c < 64; c++) due("0 as it comes, " + c, x.of(0, c, 0), 0);
        for (int c = 0; c < 64; c++) due("one of " + c, x.add(0, c, c + 1), c + 1);
        for (int c = 0; c < 64; c++) due("own of " + c, x.of(0, c, 0), c + 1);
        due("category -1", x.add(0, -1, 1), NONE);
        due("category 64", x.add(0, 64, 1), NONE);
        due("nobody has none of them", x.look(9), 0);
        due("all of them", x.look(7), 64 * 65 / 2);
    }

    private static BranchSums with(int category, int n) {
        BranchSums x = new BranchSums();
        x.add(0, category, n);
        return x;
    }

    private static void ownFrom0To9999() {
        for (int c : new int[] {0, 31, 32, 63}) {
            due("9998 of " + c, with(c, 9997).add(0, c, 1), 9998);
            due("9999 of " + c, with(c, 9998).add(0, c, 1), 9999);
            Sight.stays("10000 of " + c, () -> with(c, 9999), NONE, x -> x.add(0, c, 1));
            due("9999 at once", new BranchSums().add(0, c, 9999), 9999);
            due("1 of " + c, with(c, 2).add(0, c, -1), 1);
            due("0 of " + c, with(c, 1).add(0, c, -1), 0);
            Sight.stays("-1 of " + c, () -> with(c, 0), NONE, x -> x.add(0, c, -1));
            due("0 of 9999", with(c, 9999).add(0, c, -9999), 0);
            Sight.stays("-1 of 9998", () -> with(c, 9998), NONE, x -> x.add(0, c, -9999));
        }
    }

    // ---- "SPANS: for w 64, 32, 16, 8, 4, 2, 1 ...; NODES: how many it has"

    private static int nodesUpTo(int k) {
        int nodes = 0;
        for (int w = 64; w >= 1; w /= 2) nodes += (k + w - 1) / w;
        return nodes;
    }

    private static void nodesOfSpans() {
        BranchSums x = new BranchSums();
        due("a tree of nothing", x.unit(0, 7), 0);
        for (int k = 1; k <= 64; k++) {
            x.add(0, k - 1, 1);
            due("nodes of 0 to " + (k - 1), x.unit(0, 7), nodesUpTo(k));
        }
        for (int k = 64; k >= 1; k--) {
            x.add(0, 64 - k, -1);
            due("nodes of " + (65 - k) + " to 63", x.unit(0, 7), nodesUpTo(k - 1));
        }
        for (int c = 0; c < 64; c++) due("nodes of " + c, with(c, 9).unit(0, 7), 7);
    }

    // ---- "To MERGE two: ... the COST is how many SPANS both have"

    private static void costOfMerging() {
        int[] edges = {0, 1, 2, 3, 4, 7, 8, 15, 16, 31, 32, 47, 48, 61, 62, 63};
        for (int c : edges) {
            for (int d : edges) {
                BranchSums x = new BranchSums();
                x.comes(1, 0);
                x.add(0, c, 1);
                x.add(1, d, 1);
                due("cost of " + c + " and " + d, x.cost(0), common(c, d));
                due("rolled up", x.roll(0), common(c, d));
                due("both have", x.shared(1, 0, 2), 7);
                due("gone", x.goes(1), common(c, d));
                due("both counted", x.count(0), 2 * common(c, d));
            }
        }
        BranchSums x = new BranchSums();
        x.comes(1, 0);
        x.add(0, 5, 1);
        due("merged with nothing", x.goes(1), 0);
        x.comes(1, 0);
        x.add(0, 5, -1);
        x.add(1, 5, 1);
        due("nothing merged with it", x.goes(1), 0);
        due("two merges", x.count(2), 2);
    }

    // ---- "To SPLIT off a part from one CATEGORY to another one (both with)"

    private static void split(String own, int low, int high, int given, int cost) {
        BranchSums x = new BranchSums();
        Check.read(x, "0(1);0:" + own);
        String call = own + " split from " + low + " to " + high;
        due(call, x.give(0, 1, low, high), given);
        due(call + ", cost", x.count(1), cost);
        due(call + ", one split", x.count(3), 1);
        due(call + ", what is left", x.unit(0, 6) + x.unit(1, 6) - given, x.unit(0, 6));
    }

    private static void costOfSplitting() {
        String own = "10x1,11x2,12x4,13x8";
        split(own, 11, 12, 6, 1 + 1 + 1 + 1 + 2 + 2);
        split(own, 10, 13, 15, 0);
        split(own, 11, 13, 14, 6);
        split(own, 10, 12, 7, 6);
        split(own, 9, 14, 15, 0);
        split(own, 14, 63, 0, 0);
        split(own, 0, 9, 0, 0);
        split(own, 0, 10, 1, 6);
        split(own, 13, 63, 8, 6);
        split(own, 12, 12, 4, 6);
        split("0x3,63x4", 0, 0, 3, 1);
        split("0x3,63x4", 63, 63, 4, 1);
        split("0x3,63x4", 0, 62, 3, 1);
        split("0x3,63x4", 1, 63, 4, 1);
        split("0x3,63x4", 1, 62, 0, 0);
        split("0x3,63x4", 0, 63, 7, 0);
        split("31x3,32x4", 31, 31, 3, 1);
        split("31x3,32x4", 32, 32, 4, 1);
        split("30x3,31x4", 31, 31, 4, 6);
        split("28x3,31x4", 31, 31, 4, 5);
    }

    // ---- "(h) RECODED: ... it is SPLIT off (COST) and MERGED in as the other one (COST)"

    /** How many SPANS a CATEGORY has with some others: those from its own width on up to the whole. */
    private static int spansWith(int category, int... others) {
        int spans = 0;
        for (int w = 1; w <= 64; w *= 2) {
            boolean with = false;
            for (int c : others) with = with || c / w == category / w;
            if (with) spans++;
        }
        return spans;
    }

    private static void recode(int category, int other, int... others) {
        BranchSums x = new BranchSums();
        x.comes(23, 0);
        x.add(23, category, 4);
        for (int c : others) x.add(23, c, 9);
        String call = "recoded " + category + " as " + other + " beside " + Arrays.toString(others);
        due(call, x.recode(category, other), 4);
        due(call + ", cost of the split", x.count(1), spansWith(category, others));
        due(call + ", cost of the merge", x.count(0), spansWith(other, others));
        due(call + ", one of each", x.count(2) * 10 + x.count(3), 11);
    }

    private static void costOfRecoding() {
        int[] codes = {0, 1, 10, 12, 31, 32, 40, 63};
        int[][] others = {{}, {11}, {13}, {10, 13}, {0}, {63}, {0, 63}, {9, 11, 14, 33}, {2, 3, 30, 34, 61}, {12, 31}};
        for (int c : codes) {
            for (int d : codes) {
                for (int[] rest : others) {
                    boolean among = false;
                    for (int o : rest) among = among || o == c;
                    if (c != d && !among) recode(c, d, rest);
                }
            }
        }
        BranchSums x = new BranchSums();
        Check.read(x, "0(1 2 3);0:5x1,6x1;1:5x2;2:6x3;3:5x4,7x1");
        due("recoded in three units", x.recode(5, 7), 7);
        due("cost of three splits", x.count(1), 5 + 0 + 5);
        due("cost of three merges", x.count(0), 6 + 0 + 7);
        due("three of each", x.count(2) * 10 + x.count(3), 33);
    }

    // ---- "Each UNIT has a SUM (... 0 as it comes), STALE or not (not as it comes)"

    private static void asItComes() {
        BranchSums x = Check.rolled("0(1(2));1:5x3;2:63x4");
        x.goes(2);
        x.roll(0);
        x.comes(2, 1);
        due("not stale", x.unit(2, 4), 0);
        due("without sum", x.unit(2, 8), 0);
        due("without own", x.unit(2, 6), 0);
        due("without versions", x.versions(2), 0);
        due("those above are as they were", x.look(1), 0);
        due("nor is it rolled up", x.roll(2), NONE);
        x.add(2, 5, 1);
        x.goes(2);
        x.roll(0);
        x.comes(2, 0);
        due("not stale, though it went so", x.look(1), 0);
        x.add(2, 5, 1);
        x.roll(0);
        x.goes(2);
        x.comes(2, 1);
        due("without sum, though it went with one", x.unit(2, 8), 0);
        due("without versions, though it went with one", x.versions(2), 0);
        due("nor was any", x.was(2, 0, 5), NONE);
    }

    // ---- "TO ROLL a UNIT up: if it is not STALE nothing ... (PARTS without NODES, too)"

    private static void rolledUp() {
        BranchSums x = new BranchSums();
        due("not stale", x.roll(0), NONE);
        x.add(0, 5, 1);
        due("the head alone", x.roll(0), 0);
        due("no merge", x.count(2) * 10 + x.count(4), 1);
        due("not stale again", x.roll(0), NONE);
        for (int n = 0; n <= 22; n++) {
            BranchSums y = new BranchSums();
            for (int u = 1; u <= n; u++) y.comes(u, 0);
            y.add(0, 5, 1);
            due("with " + n + " without nodes", y.roll(0), 0);
            due("merges of " + (n + 1) + " parts", y.count(2), n);
            due("just the one that is stale", y.count(4), 1);
        }
    }

    // ---- "VERSIONS of a UNIT: ... the latest 8; none as it comes, none by (g)"

    private static void versionsAre8() {
        BranchSums x = new BranchSums();
        for (int i = 0; i <= 10; i++) {
            int count = Math.min(i, 8);
            due("versions behind " + i, x.versions(0), count);
            due("the latest", x.was(0, 0, 7), i == 0 ? NONE : i);
            due("the first of them", x.was(0, count - 1, 7), i == 0 ? NONE : i - count + 1);
            due("none ahead of it", x.was(0, count, 7), NONE);
            due("nor of more", x.grew(0, count, 1), NONE - 99999);
            if (count > 1) due("grew by the most", x.grew(0, count - 1, 1), count - 1);
            x.add(0, 7, 1);
            x.roll(0);
            x.roll(0);
        }
        Check.read(x, "0");
        due("none by a text", x.versions(0), 0);
        due("nor one of them", x.was(0, 0, 7), NONE);
    }

    // ---- "STALE becomes: ..."

    private static BranchSums threeDeep() {
        return Check.rolled("0(1(2(3)4)5(6(7)));3:5x1,6x2;7:5x3;4:9x9");
    }

    private static void staleBecomes() {
        BranchSums x = threeDeep();
        x.add(2, 0, 1);
        due("(a) it and all above", x.look(1), 1 + 2 + 4);
        x = threeDeep();
        x.comes(8, 3);
        due("(b) nobody", x.look(1), 0);
        x = threeDeep();
        x.goes(3);
        due("(c) the one above it and all above that", x.look(1), 1 + 2 + 4);
        x = threeDeep();
        x.move(2, 6);
        due("(d) all above then and now, not itself", x.look(1), 1 + 2 + 32 + 64);
        x = threeDeep();
        x.move(2, 0);
        due("(d) to the head", x.look(1), 1 + 2);
        x = threeDeep();
        x.give(4, 7, 0, 0);
        due("(e) both and all above, of nothing", x.look(1), 1 + 2 + 16 + 32 + 64 + 128);
        x = threeDeep();
        x.recode(5, 6);
        due("(h) those that had it and all above", x.look(1), 1 + 2 + 4 + 8 + 32 + 64 + 128);
        x = threeDeep();
        Check.read(x, "0(1 2)");
        due("(g) all", x.look(1), 7);
        x.roll(1);
        due("(f) not it any more", x.look(1), 5);
        x.add(2, 5, 1);
        x.add(2, 5, -1);
        x.move(2, 1);
        due("(d) one that was stale is still", x.look(1), 7);
    }

    /** "and all above": from DEPTH 12 up to the HEAD, thirteen UNITS. */
    private static BranchSums rolledStair() {
        BranchSums x = stair(12);
        x.comes(13, 11);
        x.add(12, 5, 1);
        x.add(13, 6, 1);
        due("rolled up through thirteen depths", x.roll(0), 5);
        due("each but the thirteenth below the eleventh", x.count(4), 14);
        for (int u = 0; u <= 12; u++) due("the sum of " + u, x.of(u, 5, 1), 1);
        return x;
    }

    private static void staleFromTheDeepest() {
        int above = (1 << 12) - 1;
        BranchSums x = rolledStair();
        due("nobody", x.look(1), 0);
        x.add(12, 7, 1);
        due("(a) it and all above", x.look(1), above + (1 << 12));
        x = rolledStair();
        x.goes(12);
        due("(c) all above", x.look(1), above);
        x = rolledStair();
        x.move(12, 0);
        due("(d) all that it was below", x.look(1), above);
        x = rolledStair();
        x.comes(14, 0);
        x.move(14, 11);
        due("(d) all that it is below", x.look(1), above);
        x = rolledStair();
        x.give(12, 13, 0, 63);
        due("(e) both and all above", x.look(1), above + (1 << 12) + (1 << 13));
        x = rolledStair();
        x.recode(6, 7);
        due("(h) the one that had it and all above", x.look(1), above + (1 << 13));
        due("in thought, too", x.cost(0), 5);
        due("rolled up again", x.roll(0), 5);
        due("just those", x.count(4), 27);
    }

    // ---- part 4: "UNDONE: the latest of ACTS (a) to (h) that were done (10 are kept)"

    private static void tenActsAreKept() {
        for (int acts = 0; acts <= 13; acts++) {
            BranchSums x = new BranchSums();
            for (int i = 0; i < acts; i++) x.add(0, 3, 1);
            int kept = Math.min(acts, 10);
            due("kept of " + acts, x.look(5), kept);
            for (int left = kept - 1; left >= 0; left--) {
                due("undone, left of " + acts, x.undo(), left);
                due("own then", x.of(0, 3, 0), acts - kept + left);
            }
            due("none left", x.undo(), NONE);
            due("own stays", x.of(0, 3, 0), acts - kept);
            due("undone", x.count(9), kept);
        }
    }

    private static void keptBehindUndone() {
        BranchSums x = new BranchSums();
        for (int i = 0; i < 15; i++) x.add(0, 3, 1);
        for (int i = 0; i < 4; i++) x.undo();
        for (int i = 0; i < 3; i++) x.add(0, 9, 1);
        due("nine are kept", x.look(5), 9);
        x.add(0, 9, 1);
        x.add(0, 9, 1);
        due("ten are kept", x.look(5), 10);
        for (int left = 9; left >= 0; left--) due("left", x.undo(), left);
        due("none left", x.undo(), NONE);
        due("as it was", x.of(0, 3, 0) * 100 + x.of(0, 9, 0), 600);
    }

    // ---- "An object is used for at most 512 calls after it has been made"

    private static void all512Calls() {
        BranchSums x = new BranchSums();
        for (int i = 1; i <= 511; i++) due("call " + i, x.add(0, 3, 1), i);
        due("call 512", x.undo(), 9);
        BranchSums y = new BranchSums();
        for (int i = 1; i <= 511; i++) y.image(i % 2 == 1);
        due("call 512", y.image(false), true);
    }

    public static void main(String[] args) {
        unitsFrom0To23();
        theHeadIsAlwaysThere();
        eachBelowAnotherThatIsThere();
        depthByComing();
        depthByMoving();
        depthOfTheDeepest();
        depthBesideTheBranch();
        depthByTexts();
        aBranchIsWithItself();
        categoriesFrom0To63();
        ownFrom0To9999();
        nodesOfSpans();
        costOfMerging();
        costOfSplitting();
        costOfRecoding();
        asItComes();
        rolledUp();
        versionsAre8();
        staleBecomes();
        staleFromTheDeepest();
        tenActsAreKept();
        keptBehindUndone();
        all512Calls();
        Check.close("EdgesOfTermsTest");
    }
}

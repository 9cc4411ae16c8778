/** Promises 1 to 8, 16, 47, 48, 50 and 51 at the bounds that they name. */
public final class EdgesOfActsTest {
    private static final int NONE = BranchSums.NONE;
    private static final int[] UNITS = {0, 1, 2, 3, 4, 5, 6, 23};

    private static void due(String call, long got, long want) {
        Check.due(call, got, want);
    }

    private static void due(String call, boolean got, boolean want) {
        Check.due(call, got, want);
    }

    // ---- 1: "The HEAD alone, without entries": what each call says of a new object

    private static void aNewObject() {
        BranchSums x = new BranchSums();
        long[] got = {
            x.broken(NONE, 0), x.broken(0, 0), x.fault(0), x.fault(1), x.unit(0, 0), x.unit(0, 1), x.below(0, 0), x.above(0, 0),
            x.both(0, 0), x.of(0, 0, 0), x.of(0, 63, 1), x.of(0, 31, 2), x.ranked(0, 0), x.less(0, 64), x.leader(0, 0, 0),
            x.median(0), x.heavy(0, 0), x.squares(0), x.seats(0, 200, 0), x.percent(0, 0), x.quantile(0, 1), x.few(0, 1),
            x.run(0, NONE, 0), x.run(0, 0, 0), x.run(0, NONE - 1, 0), x.run(0, NONE - 2, 0), x.twin(0), x.sign(0), x.versions(0),
            x.was(0, 0, 0), x.grew(0, 1, 0), x.halves(0, 0), x.halves(0, 1), x.chain(0, 0, NONE), x.chain(0, 0, 0), x.hops(0, 0),
            x.drawn(0, 50, 0), x.unlike(0, 0), x.shared(0, 0, 0), x.shared(0, 0, 1), x.shared(0, 0, 2), x.shared(0, 0, 3),
            x.leads(0), x.where(0, 1), x.cost(0), x.would(0, 0, 0), x.home(0), x.look(0), x.look(3), x.look(9), x.undo(), x.roll(0),
            x.text(), x.fault(0), x.fault(1), x.report(0), x.sign(0), x.sign(1), x.state(9), x.state(0)
        };
        long[] want = {
            0, NONE, 0, NONE, NONE, 0, NONE, 0,
            0, 0, 0, 0, NONE, 0, NONE,
            NONE, 0, 0, 0, 0, NONE, NONE,
            0, NONE, NONE, NONE, NONE, NONE, 0,
            NONE, NONE - 99999, 0, 0, 0, 0, 1,
            0, 0, 0, 0, 0, 0,
            0, NONE, 0, NONE, NONE, 1, 1, 64, NONE, NONE,
            NONE, 1, 0, 2, '0', ':', 0, 9
        };
        for (int i = 0; i < want.length; i++) due("1: of a new object, " + i, got[i], want[i]);
        due("1: no image", x.image(false), false);
        due("1: no bytes", x.end(1), false);
        due("1: none of them", x.end(0), true);
    }

    // ---- 2: "(a) (n -9999 .. 9999, not 0): OWN then; NONE if it can't be"

    private static void added() {
        int[] then = {0, 1, 2, 4999, 5000, 5001, 9997, 9998, 9999};
        int[] more = {-10000, -9999, -9998, -5000, -4999, -2, -1, 0, 1, 2, 4999, 5000, 9998, 9999, 10000};
        for (int own : then) {
            for (int n : more) {
                BranchSums x = new BranchSums();
                if (own > 0) x.add(0, 7, own);
                boolean can = n != 0 && n >= -9999 && n <= 9999 && own + n >= 0 && own + n <= 9999;
                int acts = x.look(5);
                due("2: " + n + " more than " + own, x.add(0, 7, n), can ? own + n : NONE);
                due("2: own then", x.of(0, 7, 0), can ? own + n : own);
                due("2: an act", x.look(5) - acts, can ? 1 : 0);
            }
        }
        for (int u = 1; u < 24; u++) {
            BranchSums x = new BranchSums();
            due("2: unit " + u + " that is not there", x.add(u, 0, 1), NONE);
            x.comes(u, 0);
            due("2: unit " + u, x.add(u, 63, 9999), 9999);
            due("2: not the head's", x.of(0, 63, 0) + x.of(u, 62, 0), 0);
        }
    }

    // ---- 4: "(c): the COST; NONE if it can't be": "its OWN comes to the one above it", 9999 at most

    private static BranchSums heir(int category, int upper, int lower) {
        BranchSums x = new BranchSums();
        x.comes(1, 0);
        if (upper > 0) x.add(0, category, upper);
        if (lower > 0) x.add(1, category, lower);
        x.add(1, 33, 2);
        return x;
    }

    private static void goes() {
        for (int c : new int[] {0, 1, 31, 32, 62, 63}) {
            due("4: 9998 then", heir(c, 9000, 998).goes(1) != NONE, true);
            due("4: 9999 then", heir(c, 9000, 999).goes(1) != NONE, true);
            due("4: all of 9999", heir(c, 0, 9999).goes(1), 0);
            BranchSums y = heir(c, 9000, 999);
            y.goes(1);
            due("4: all of it is the heir's", y.of(0, c, 0) * 10 + y.of(0, 33, 0), 99992);
            due("4: none to 9999", heir(c, 9999, 0).goes(1) != NONE, true);
            Sight.stays("4: 10000 then of " + c, () -> heir(c, 9000, 1000), NONE, x -> x.goes(1));
            Sight.stays("4: one to 9999 of " + c, () -> heir(c, 9999, 1), NONE, x -> x.goes(1));
            Sight.stays("4: 9999 to one of " + c, () -> heir(c, 1, 9999), NONE, x -> x.goes(1));
        }
        BranchSums x = new BranchSums();
        x.comes(1, 0);
        x.comes(2, 1);
        due("4: with one below", x.goes(1), NONE);
        x.comes(3, 1);
        due("4: without entries", x.goes(2), 0);
        due("4: with one below still", x.goes(1), NONE);
        due("4: the other", x.goes(3), 0);
        due("4: with none below", x.goes(1), 0);
        due("4: not there any more", x.goes(1), NONE);
        due("4: went", x.count(7) * 10 + x.count(2), 33);
    }

    // ---- 5: "(d): how many are in its BRANCH; NONE if it can't be", each unit below each other one

    private static boolean canMove(BranchSums x, int u, int to) {
        if (u == 0 || x.unit(u, 1) == NONE || x.unit(to, 1) == NONE || x.unit(u, 0) == to) return false;
        for (int v = to; v != NONE; v = x.unit(v, 0)) {
            if (v == u) return false;
        }
        return true;
    }

    private static void eachBelowEachOther() {
        for (int u = -1; u <= 24; u++) {
            for (int to = -1; to <= 24; to++) {
                BranchSums x = Sight.SCENE.make();
                boolean can = canMove(x, u, to);
                int size = x.unit(u, 3);
                int moved = x.count(5);
                int above = x.unit(u, 0);
                String call = "5: " + u + " below " + to;
                due(call, x.move(u, to), can ? size : NONE);
                due(call + ", moved", x.count(5) - moved, can ? 1 : 0);
                due(call + ", above it", x.unit(u, 0), can ? to : above);
            }
        }
        BranchSums x = new BranchSums();
        Check.read(x, "0(1 2(3 4 5 6 7 8 9 10 11 12 13 14 15 16 17 18 19 20 21 22 23))");
        due("5: all but two", x.move(2, 1), 22);
        due("5: at depth 3", x.unit(23, 1), 3);
        due("5: to the head", x.move(23, 0), 1);
    }

    // ---- 6: "how much is GIVEN OVER together (0 too: it is an ACT); NONE if it can't be"

    private static BranchSums giver(String from, String to) {
        BranchSums x = new BranchSums();
        Check.read(x, "0(1);0:" + from + ";1:" + to);
        return x;
    }

    private static void given() {
        int[][] spans = {{0, 0, 1}, {0, 1, 3}, {1, 1, 2}, {62, 62, 4}, {62, 63, 12}, {63, 63, 8}, {0, 63, 15}, {2, 61, 0}, {30, 30, 0}};
        for (int[] s : spans) {
            BranchSums x = giver("0x1,1x2,62x4,63x8", "5x1");
            due("6: from " + s[0] + " to " + s[1], x.give(0, 1, s[0], s[1]), s[2]);
            due("6: an act", x.look(5), 2);
            due("6: own", x.unit(0, 6) * 100 + x.unit(1, 6), (15 - s[2]) * 100 + s[2] + 1);
            due("6: a split and a merge", x.count(3) * 10 + x.count(2), 11);
            due("6: given over", x.count(8), s[2]);
            due("6: low above high", x.give(0, 1, s[1] + 1, s[0]), NONE);
        }
        due("6: 9999 then", giver("5x999", "5x9000").give(0, 1, 5, 5), 999);
        due("6: all of 9999", giver("5x9999", "4x9999,6x9999").give(0, 1, 5, 5), 9999);
        Sight.stays("6: 10000 then", () -> giver("5x1000,7x1", "5x9000"), NONE, x -> x.give(0, 1, 0, 63));
        Sight.stays("6: the first of the part", () -> giver("5x1,6x1,7x1", "5x9999"), NONE, x -> x.give(0, 1, 5, 7));
        Sight.stays("6: the last of the part", () -> giver("5x1,6x1,7x1", "7x9999"), NONE, x -> x.give(0, 1, 5, 7));
        due("6: right behind the part", giver("5x1,6x1,7x1", "7x9999").give(0, 1, 5, 6), 2);
        due("6: right ahead of the part", giver("5x1,6x1,7x1", "5x9999").give(0, 1, 6, 7), 2);
        due("6: none to 9999", giver("5x1,7x1", "6x9999").give(0, 1, 5, 7), 2);
        due("6: category 0", giver("0x1,1x1", "0x9999").give(0, 1, 0, 1), NONE);
        due("6: category 63", giver("62x1,63x1", "63x9999").give(0, 1, 62, 63), NONE);
        due("6: to the one above", giver("5x1", "5x7").give(1, 0, 0, 63), 7);
        BranchSums x = giver("5x1", "5x7");
        due("6: unlike units", x.give(0, 0, 0, 63) + x.give(1, 1, 0, 63), 2 * NONE);
        due("6: twice", x.give(0, 1, 0, 63) * 10 + x.give(0, 1, 0, 63), 10);
    }

    // ---- 7: "(f): the COST; NONE if it is not STALE, or there is none such"

    private static void rolled() {
        for (int u = -1; u <= 24; u++) {
            BranchSums x = Sight.SCENE.make();
            int stale = x.unit(u, 4);
            int cost = x.cost(u);
            due("7: roll(" + u + ")", x.roll(u), stale == 1 ? cost : NONE);
            due("7: not stale then", x.roll(u), NONE);
            due("7: right then", x.unit(u, 5), x.unit(u, 1) == NONE ? NONE : 1);
        }
    }

    // ---- 8: "(h) (unlike CATEGORIES): how many entries; NONE if it can't be, or nobody has it in OWN"

    private static BranchSums coded(int category, int other, int had, int hadOther) {
        BranchSums x = new BranchSums();
        x.comes(1, 0);
        x.comes(23, 1);
        x.add(0, category, 1);
        x.add(1, other, 9999);
        if (had > 0) x.add(23, category, had);
        if (hadOther > 0) x.add(23, other, hadOther);
        return x;
    }

    private static void recoded() {
        int[][] pairs = {{0, 63}, {63, 0}, {0, 1}, {31, 32}, {62, 63}};
        for (int[] p : pairs) {
            int from = p[0];
            int to = p[1];
            due("8: 9998 then", coded(from, to, 9000, 998).recode(from, to), 9001);
            due("8: 9999 then", coded(from, to, 9000, 999).recode(from, to), 9001);
            due("8: all of 9999", coded(from, to, 9999, 0).recode(from, to), 10000);
            due("8: none to 9999", coded(from, to, 0, 9999).recode(from, to), 1);
            Sight.stays("8: 10000 then", () -> coded(from, to, 9000, 1000), NONE, x -> x.recode(from, to));
            Sight.stays("8: one to 9999", () -> coded(from, to, 1, 9999), NONE, x -> x.recode(from, to));
            Sight.stays("8: the head's 10000 then", () -> {
                BranchSums x = coded(from, to, 9, 9);
                x.add(0, to, 9999);
                return x;
            }, NONE, x -> x.recode(from, to));
        }
        BranchSums x = coded(5, 6, 3, 0);
        due("8: the same category", x.recode(5, 5), NONE);
        due("8: all units", x.recode(5, 9), 4);
        due("8: nobody has it any more", x.recode(5, 9), NONE);
        due("8: what it was goes up", x.goes(23), 3);
        due("8: and back", x.recode(9, 5), 4);
    }

    // ---- 16: "The latest ACT is UNDONE: how many are left"; each kind of act, and what is none

    private static final Sight.Call[] ACTS = {
        x -> x.add(3, 5, 7), x -> x.add(0, 5, -9999), x -> x.comes(7, 23) ? 1 : NONE, x -> x.goes(3), x -> x.goes(6),
        x -> x.move(1, 4), x -> x.move(6, 0), x -> x.give(0, 3, 5, 5) , x -> x.give(1, 3, 60, 61), x -> x.give(23, 1, 0, 63),
        x -> x.roll(0), x -> x.roll(3), x -> x.roll(1), x -> x.recode(9, 63), x -> x.recode(62, 0), x -> x.text()
    };

    /** SCENE with eight acts to undo, so that two more are kept beside them. */
    private static BranchSums sceneOfEight() {
        BranchSums x = Sight.SCENE.make();
        x.undo();
        x.undo();
        return x;
    }

    private static void eachKindUndone() {
        for (int i = 0; i < ACTS.length; i++) {
            Sight.Call act = ACTS[i];
            String call = "16: act " + i;
            due(call + " can be", act.on(sceneOfEight()) != NONE, i != 7);
            if (i == 7) continue;
            Sight.sameOrg(call + " undone", () -> {
                BranchSums x = sceneOfEight();
                act.on(x);
                due(call + " is kept", x.look(5), 9);
                due(call + " undone", x.undo(), 8);
                return x;
            }, EdgesOfActsTest::sceneOfEight);
        }
        Sight.sameOrg("16: two undone", () -> {
            BranchSums x = sceneOfEight();
            x.move(1, 4);
            x.roll(0);
            due("16: ten", x.look(5), 10);
            x.undo();
            x.undo();
            return x;
        }, EdgesOfActsTest::sceneOfEight);
    }

    /** "all is as it was ahead of it, but LIMITS, STATE, counts, THE TAPE, fault(), THE IMAGE, the chosen REPORT" */
    private static void whatIsNotUndone() {
        BranchSums x = Sight.SCENE.make();
        x.add(3, 5, 7);
        x.limit(9, 9, 9, 9);
        x.state(-5);
        x.image(true);
        x.report(3);
        x.feed(0, 0, 0, 0, 0);
        x.text();
        int came = x.count(6);
        x.comes(7, 0);
        x.goes(7);
        due("16: undo()", x.undo() + x.undo() + x.undo(), 9 + 8 + 7);
        due("16: own", x.of(3, 5, 0), 12);
        due("16: limits", x.look(10), 6);
        due("16: state", x.state(0), -5);
        due("16: came", x.count(6) - came, 1);
        due("16: went", x.count(7), 1);
        due("16: undone", x.count(9), 4);
        due("16: the tape", x.look(6), 0);
        due("16: the fault", x.fault(0) * 100 + x.fault(1), 100 + 23);
        due("16: the report", x.sign(0), '3');
        due("16: the image is as it was taken", x.look(12), 0);
        x.image(false);
        due("16: own in the image", x.of(3, 5, 0), 19);
    }

    private static void noActs() {
        BranchSums x = new BranchSums();
        x.limit(0, 0, 0, 0);
        x.state(5);
        x.feed(0x30202020, 0x20202020, 0x20202020, 0x20202020, 0x20202020);
        x.end(20);
        x.image(true);
        x.report(0);
        x.drawn(0, 1, 0);
        x.cost(0);
        due("16: no acts", x.look(5), 0);
        due("16: none to undo", x.undo(), NONE);
        due("16: nothing undone", x.count(9), 0);
        x.text();
        due("16: a text is one", x.undo(), 0);
    }

    // ---- 47: "COST of rolling up (0: it is not STALE)"; 48: "WOULD of a MOVE"; nothing of it stays

    private static void costOfEach() {
        for (int u = -1; u <= 24; u++) {
            BranchSums x = Sight.SCENE.make();
            int cost = x.cost(u);
            due("47: cost(" + u + ")", cost, x.unit(u, 4) == 0 ? 0 : x.roll(u));
            due("47: then it is not stale", x.cost(u), x.unit(u, 1) == NONE ? NONE : 0);
        }
    }

    private static int firstLeaders(BranchSums x, BranchSums then) {
        int others = 0;
        for (int u : UNITS) {
            if (x.leader(u, 0, 0) != then.leader(u, 0, 0)) others++;
        }
        return others;
    }

    private static void wouldOfEach(Sight.Maker maker) {
        for (int u = -1; u <= 24; u++) {
            for (int to = -1; to <= 24; to++) {
                BranchSums x = maker.make();
                boolean can = canMove(x, u, to);
                BranchSums y = maker.make();
                y.move(u, to);
                String call = "48: would(" + u + ", " + to + ")";
                due(call + " 3", x.would(u, to, 3), can ? y.look(1) : NONE);
                int cost = can ? y.roll(0) : NONE;
                due(call + " 0", x.would(u, to, 0), cost);
                due(call + " 1", x.would(u, to, 1), can ? y.leader(to, 0, 0) : NONE);
                due(call + " 2", x.would(u, to, 2), can ? firstLeaders(x, y) : NONE);
                due(call + " -1, 4", x.would(u, to, -1) + x.would(u, to, 4), 2 * NONE);
            }
        }
    }

    private static void wouldWithoutLeader() {
        BranchSums x = new BranchSums();
        Check.read(x, "0(1 2 3);0:5x1");
        due("48: what 1 is NONE", x.would(1, 2, 1), NONE);
        due("48: what 0 all the same", x.would(1, 2, 0), 0);
        due("48: what 2: the head's", x.would(1, 2, 2), 1);
        due("48: what 3: all are stale", x.would(1, 2, 3), 15);
        x.roll(0);
        due("48: what 3: just those above", x.would(1, 2, 3), 5);
        due("48: what 2: none", x.would(1, 2, 2), 0);
    }

    /** "how many UNITS have another first LEADER", whichever numbers these have, others being not there. */
    private static void wouldWithOtherLeaders() {
        int[][] units = {{1, 2, 3}, {3, 2, 1}, {5, 6, 7}, {21, 22, 23}, {23, 9, 16}, {2, 23, 1}};
        for (int[] u : units) {
            // The last one's 6 comes to lead where there was 5 alone; the one that it was below has nothing then.
            BranchSums x = Check.rolled("0(" + u[0] + " " + u[1] + "(" + u[2] + "));" + u[2] + ":6x9;0:5x10;" + u[0] + ":5x1");
            due("48: the new one above it and the one that lacks it", x.would(u[2], u[0], 2), 2);
            due("48: the leader of the new one above it", x.would(u[2], u[0], 1), 6);
            x.add(0, 6, 2);
            due("48: not the head by a tie", x.would(u[2], u[0], 2), 2);
            x.add(0, 6, 1);
            due("48: the head, too", x.would(u[2], u[0], 2), 3);
            due("48: the leader of the head", x.would(u[2], 0, 1), 6);
            due("48: the head and the one that lacks it", x.would(u[2], 0, 2), 2);
        }
    }

    private static void inThought() {
        Sight.stays("47, 48, 49: nothing stays", Sight.SCENE, 0, UNITS, (x, v) -> {
            x.cost(v);
            x.home(v);
            for (int what = 0; what < 4; what++) x.would(v, 4, what);
            return 0;
        });
    }

    // ---- the calls that ask change nothing, but for report() and drawn()

    private static void asked() {
        Sight.stays("17 to 23", Sight.SCENE, 0, UNITS, (x, v) -> {
            for (int w = 0; w < 12; w++) x.unit(v, w);
            return 0 * (x.below(v, 0) + x.above(v, 1) + x.both(v, 6) + x.of(v, 5, 2) + x.ranked(v, 3) + x.less(v, 9));
        });
        Sight.stays("24 to 33", Sight.SCENE, 0, UNITS, (x, v) ->
            0 * (x.leader(v, 0, 1) + x.median(v) + x.heavy(v, 3) + x.squares(v) + x.seats(v, 9, 5) + x.percent(v, 5)
                + x.quantile(v, 50) + x.few(v, 50) + x.run(v, NONE, 0) + x.run(v, NONE - 2, 2) + x.twin(v)));
        Sight.stays("36 to 46", Sight.SCENE, 0, UNITS, (x, v) ->
            0 * (x.versions(v) + x.was(v, 0, 5) + x.grew(v, 1, 0) + x.halves(v, 0) + x.chain(v, 6, 5) + x.hops(v, 6)
                + x.unlike(v, 0) + x.shared(v, 0, 2) + x.leads(v) + x.where(v, 1) + x.sign(v) + x.fault(0)));
        Sight.stays("50 and 52", Sight.SCENE, 0, new int[] {0, 1, 2, 3, 4, 5, 6, 7, 8, 9, 10, 11, 12}, (x, v) -> 0 * (x.count(v) + x.look(v)));
    }

    // ---- 16, 51: "all is as it was", as much as there may be

    /** All 24 UNITS, two stairs of them to the DEPTHS 12 and 11, eight VERSIONS of each, twelve LIMITS, all BROKEN. */
    private static BranchSums fullest() {
        BranchSums x = new BranchSums();
        StringBuilder text = new StringBuilder("0");
        for (int u = 1; u <= 12; u++) text.append("(").append(u);
        text.append(")".repeat(11)).append(" 13");
        for (int u = 14; u <= 23; u++) text.append("(").append(u);
        text.append(")".repeat(11));
        for (int u = 0; u <= 23; u++) text.append(";").append(u).append(u % 2 == 0 ? ":63x" : ":0x").append(u + 1);
        due("the text " + text, Check.read(x, text.toString()), 24);
        for (int i = 0; i < 12; i++) x.limit(i, i + 1, 63, i);
        x.state(-9);
        for (int i = 1; i <= 9; i++) {
            x.add(12, 0, i);
            x.add(23, 63, i);
            x.roll(0);
        }
        due("limits, all broken", x.look(10) * 100 + x.broken(NONE, 0), 1212);
        due("versions", x.versions(0) + x.versions(12) + x.versions(23), 24);
        return x;
    }

    private static BranchSums goneBackFullest() {
        BranchSums x = fullest();
        x.image(true);
        x.image(false);
        return x;
    }

    private static BranchSums othersAndBack() {
        BranchSums x = fullest();
        x.image(true);
        x.recode(63, 1);
        x.goes(12);
        Check.read(x, "0(23(22))");
        x.add(23, 63, 9);
        for (int i = 0; i < 3; i++) {
            x.add(22, 0, 1);
            x.roll(0);
        }
        for (int i = 0; i < 12; i++) x.limit(i, i + 1, 63, NONE);
        for (int i = 0; i < 12; i++) x.limit(23, 0, 62 - i, 99);
        x.state(9);
        x.undo();
        x.image(false);
        Check.read(x, "0(");
        return x;
    }

    private static BranchSums eightOfFullest() {
        BranchSums x = fullest();
        x.undo();
        x.undo();
        return x;
    }

    private static void asMuchAsThereMayBe() {
        Sight.same("51: the fullest", EdgesOfActsTest::othersAndBack, () -> {
            BranchSums x = goneBackFullest();
            Check.read(x, "0(");
            return x;
        });
        Sight.Call[] acts = {
            x -> Check.read(x, "0"), x -> x.roll(0), x -> x.recode(63, 1), x -> x.goes(12), x -> x.add(23, 63, 3),
            x -> x.move(23, 0), x -> x.give(12, 23, 0, 63), x -> x.roll(12)
        };
        for (int i = 0; i < acts.length; i++) {
            Sight.Call act = acts[i];
            Sight.sameOrg("16: act " + i + " of the fullest", () -> {
                BranchSums x = eightOfFullest();
                due("16: done", act.on(x) != NONE, true);
                due("16: undone", x.undo(), 8);
                return x;
            }, EdgesOfActsTest::eightOfFullest);
        }
    }

    // ---- 50: "count(what)": 0 .. 10, each at the acts that it counts and at none else

    private static void counts(String when, BranchSums x, int... want) {
        for (int w = 0; w <= 10; w++) due("50: " + when + ", count(" + w + ")", x.count(w), want[w]);
        due("50: " + when + ", count(11)", x.count(11), NONE);
        due("50: " + when + ", count(-1)", x.count(-1), NONE);
    }

    private static void eachCount() {
        BranchSums x = new BranchSums();
        counts("new", x, 0, 0, 0, 0, 0, 0, 0, 0, 0, 0, 0);
        Check.read(x, "0(1(2)3);0:5x1;1:5x2;2:5x4,6x1;3:6x8");
        counts("a text", x, 0, 0, 0, 0, 0, 0, 0, 0, 0, 0, 0);
        x.add(0, 5, 3);
        x.cost(0);
        x.would(2, 0, 0);
        counts("added, in thought", x, 0, 0, 0, 0, 0, 0, 0, 0, 0, 0, 0);
        x.comes(4, 3);
        counts("came", x, 0, 0, 0, 0, 0, 0, 1, 0, 0, 0, 0);
        x.move(2, 3);
        counts("moved", x, 0, 0, 0, 0, 0, 1, 1, 0, 0, 0, 0);
        due("50: goes without entries", x.goes(4), 0);
        counts("went", x, 0, 0, 1, 0, 0, 1, 1, 1, 0, 0, 0);
        x.give(2, 0, 5, 5);
        counts("given over", x, 7, 5, 2, 1, 0, 1, 1, 1, 4, 0, 0);
        x.recode(6, 5);
        counts("recoded", x, 7, 5, 4, 3, 0, 1, 1, 1, 4, 0, 9);
        x.roll(0);
        counts("rolled up", x, 28, 5, 7, 3, 4, 1, 1, 1, 4, 0, 9);
        x.undo();
        counts("undone", x, 28, 5, 7, 3, 4, 1, 1, 1, 4, 1, 9);
        x.image(true);
        x.undo();
        x.image(false);
        counts("gone back", x, 28, 5, 7, 3, 4, 1, 1, 1, 4, 1, 9);
    }

    // ---- 51: "THE IMAGE is taken (true), or gone back to (false): true; false if there is none"

    private static void theImage() {
        Sight.stays("51: there is none", BranchSums::new, 0, x -> x.image(false) ? 1 : 0);
        Sight.Maker taken = () -> {
            BranchSums x = Sight.SCENE.make();
            due("51: taken", x.image(true), true);
            return x;
        };
        due("51: acts stay", taken.make().look(5), 10);
        due("51: nothing is other", taken.make().look(12), 0);
        Sight.Maker goneBack = () -> {
            BranchSums x = taken.make();
            due("51: gone back", x.image(false), true);
            return x;
        };
        for (int i = 0; i < ACTS.length; i++) {
            Sight.Call act = ACTS[i];
            Sight.same("51: behind act " + i, () -> {
                BranchSums x = taken.make();
                act.on(x);
                x.limit(2, 2, 2, 2);
                x.state(99);
                x.limit(0, 0, 63, NONE);
                x.image(false);
                // THE TAPE and fault() stay as a text left them.
                Check.read(x, "0(");
                Check.tape(x, "0(7 8(9));7:1x11;9:2x22");
                return x;
            }, goneBack);
        }
        Sight.same("51: twice", () -> {
            BranchSums x = goneBack.make();
            x.roll(0);
            x.goes(3);
            due("51: gone back again", x.image(false), true);
            return x;
        }, goneBack);
    }

    private static void whatTheImageLeaves() {
        BranchSums x = Sight.SCENE.make();
        x.report(3);
        Check.tape(x, "24");
        x.text();
        x.feed(0, 0, 0, 0, 0);
        due("51: gone back", x.image(false), true);
        due("51: nothing to undo", x.undo(), NONE);
        due("51: nothing is other", x.look(12), 0);
        due("51: the report stays", x.sign(0), '3');
        due("51: the fault stays", x.fault(0) * 10 + x.fault(1), 20);
        due("51: the tape stays", x.look(6), 20);
        due("51: counts as they were", x.count(4) * 10 + x.count(9), 70);
        due("51: limits as they were", x.look(10), 4);
        due("51: state as it was", x.state(1), 12345);
        due("51: own", x.of(3, 5, 0) + x.of(3, 31, 0), 9);
        due("51: sums", x.of(0, 5, 1), 10002);
        due("51: versions", x.versions(0), 1);
        x.add(0, 0, 1);
        due("51: all goes on", x.undo(), 0);
        due("51: just to there", x.undo(), NONE);
        x.add(0, 0, 1);
        x.image(true);
        x.add(0, 0, 1);
        x.image(false);
        due("51: the later one", x.of(0, 0, 0), 1);
    }

    public static void main(String[] args) {
        aNewObject();
        added();
        goes();
        eachBelowEachOther();
        given();
        rolled();
        recoded();
        eachKindUndone();
        whatIsNotUndone();
        noActs();
        costOfEach();
        wouldOfEach(Sight.SCENE);
        wouldOfEach(() -> Check.rolled("0(1(3(6))2(4)23);0:9x2;1:5x1;3:5x9,7x3;6:7x4;2:5x2;4:8x3;23:8x8"));
        wouldWithoutLeader();
        wouldWithOtherLeaders();
        inThought();
        asked();
        eachCount();
        theImage();
        whatTheImageLeaves();
        asMuchAsThereMayBe();
        Check.close("EdgesOfActsTest");
    }
}

import java.util.ArrayList;
import java.util.List;

/**
 * "In thought (nothing of it stays)", "all else stays, if there is a FAULT": whatever was thought, read in
 * vain, asked or kept as THE IMAGE ahead of it, each call answers of what is.
 */
public final class ThoughtTest {
    private static final int NONE = BranchSums.NONE;
    /** UNITS that are there in the scene, and others that are not. */
    private static final int[] UNITS = {0, 1, 2, 3, 4, 5, 6, 23, 7, 22};
    private static final int[] OTHERS = {0, 4, 6, 23};
    private static final int[] CATEGORIES = {0, 5, 9, 31, 62, 63};
    private static final String[] READ_IN_VAIN = {
        "1", "0(7(8(22", "0(23(6(5(4(3(2(1)))))))7(8 9)22);0:1x1;1:5x77;2:63x8;3:9x9;4:5x5;5:5x6;6:0x4,5x4;23:5x3;7:5x9;22:63x7;64:1x1",
        "0(1 2 3 4 5 6 23);0:0x70,5x70,63x70;1:9x70;2:31x70;3:62x70;4:5x1;5:5x1;6:5x1;23:5x1,5x1"
    };

    private interface Ahead {
        void on(BranchSums x);
    }

    private static BranchSums scene() {
        BranchSums x = Sight.SCENE.make();
        x.end(0);
        return x;
    }

    private static void add(List<Long> seen, long... answers) {
        for (long a : answers) seen.add(a);
    }

    private static void tree(BranchSums x, int u, List<Long> seen) {
        for (int w = 0; w < 12; w++) add(seen, x.unit(u, w));
        for (int i = 0; i < 3; i++) add(seen, x.below(u, i), x.above(u, i));
        for (int v : OTHERS) add(seen, x.both(u, v), x.hops(u, v), x.chain(u, v, NONE), x.chain(u, v, 5), x.chain(v, u, 9));
        for (int c : CATEGORIES) {
            for (int w = 0; w < 3; w++) add(seen, x.of(u, c, w));
        }
        add(seen, x.home(u));
    }

    private static void sum(BranchSums x, int u, List<Long> seen) {
        for (int r : new int[] {0, 5, 9000, 10005}) add(seen, x.ranked(u, r));
        for (int i = 0; i < 3; i++) add(seen, x.leader(u, i, 0), x.leader(u, i, 1));
        add(seen, x.less(u, 6), x.less(u, 64), x.median(u), x.heavy(u, 10), x.squares(u), x.quantile(u, 90), x.few(u, 90));
        for (int c : CATEGORIES) add(seen, x.seats(u, 50, c), x.percent(u, c), x.drawn(u, 3, c));
        for (int i = NONE - 2; i < 2; i++) add(seen, x.run(u, i, 0), x.run(u, i, 1), x.run(u, i, 2));
        add(seen, x.report(u));
        for (int i = 0; i < 12; i++) add(seen, x.sign(i));
        add(seen, x.versions(u), x.was(u, 0, 5), x.was(u, 0, 63), x.was(u, 1, 5));
        for (int w = 0; w < 5; w++) add(seen, x.grew(u, 1, w));
    }

    private static void several(BranchSums x, int u, List<Long> seen) {
        add(seen, x.twin(u), x.halves(u, 0), x.halves(u, 1));
        for (int v : OTHERS) {
            add(seen, x.unlike(u, v), x.unlike(v, u));
            for (int w = 0; w < 4; w++) add(seen, x.shared(u, v, w), x.shared(v, u, w));
        }
        for (int c : CATEGORIES) add(seen, x.leads(c), x.where(c, 1), x.where(c, 8));
        for (int i = NONE; i < 3; i++) add(seen, x.broken(i, 0), x.broken(i, 1));
        for (int w = 0; w < 12; w++) add(seen, x.look(w));
        for (int w = 0; w < 11; w++) add(seen, x.count(w));
    }

    private static void same(String call, List<Long> got, List<Long> want) {
        if (!got.equals(want)) System.out.println(call + ": answers are " + got + ", due are " + want);
        Check.due(call + ": as due", got.equals(want), true);
    }

    private static List<Long> asked(Ahead ahead, int u) {
        List<Long> seen = new ArrayList<>();
        BranchSums x = scene();
        ahead.on(x);
        tree(x, u, seen);
        sum(x, u, seen);
        several(x, u, seen);
        return seen;
    }

    /** Each on an object of its own: these put something else in thought. */
    private static List<Long> inThought(Ahead ahead, int u) {
        List<Long> seen = new ArrayList<>();
        BranchSums x = scene();
        ahead.on(x);
        add(seen, x.cost(u));
        for (int v : UNITS) {
            for (int w = 0; w < 4; w++) {
                BranchSums y = scene();
                ahead.on(y);
                add(seen, y.would(u, v, w));
            }
        }
        return seen;
    }

    private static final Sight.Call[] ACTS = {
        x -> x.add(3, 5, 7), x -> x.add(22, 5, 7), x -> x.comes(7, 23) ? 1 : 0, x -> x.comes(8, 22) ? 1 : 0, x -> x.comes(5, 3) ? 1 : 0,
        x -> x.goes(3), x -> x.goes(6), x -> x.goes(2), x -> x.goes(22), x -> x.move(6, 0), x -> x.move(1, 4), x -> x.move(2, 4),
        x -> x.give(23, 1, 0, 63), x -> x.give(1, 3, 60, 61), x -> x.give(7, 3, 0, 63), x -> x.roll(0), x -> x.roll(1), x -> x.roll(22),
        x -> x.recode(9, 63), x -> x.recode(5, 0), x -> x.recode(1, 7), x -> x.undo(), x -> Check.read(x, "0(9 8);8:5x1"),
        x -> x.limit(3, 0, 63, 1), x -> x.limit(0, 0, 63, NONE)
    };

    private static List<Long> acted(Ahead ahead, Sight.Call act, int u) {
        List<Long> seen = new ArrayList<>();
        BranchSums x = scene();
        ahead.on(x);
        add(seen, act.on(x));
        tree(x, u, seen);
        several(x, u, seen);
        return seen;
    }

    private static void answersOfWhatIs(String what, Ahead ahead) {
        // None but this: what the scene's own text left behind is told as a text that is read in vain.
        Ahead nothing = x -> Check.read(x, "0(");
        for (int u : UNITS) {
            same(what + ", asked of " + u, asked(ahead, u), asked(nothing, u));
            same(what + ", in thought of " + u, inThought(ahead, u), inThought(nothing, u));
        }
        for (int i = 0; i < ACTS.length; i++) {
            for (int u : UNITS) same(what + ", act " + i + ", asked of " + u, acted(ahead, ACTS[i], u), acted(nothing, ACTS[i], u));
        }
    }

    private static void otherSumsAsked(BranchSums x) {
        for (int u = 0; u < 24; u++) {
            x.halves(u, 0);
            x.seats(u, 200, 5);
            x.home(u);
            x.unit(u, 11);
            x.report(u);
        }
        x.drawn(0, 50, 5);
        x.state(12345);
    }

    public static void main(String[] args) {
        for (String text : READ_IN_VAIN) {
            answersOfWhatIs("'" + text + "' read in vain", x -> Check.due("a FAULT of " + text, Check.read(x, text), NONE));
        }
        answersOfWhatIs("a move in thought", x -> x.would(2, 1, 0));
        answersOfWhatIs("another move in thought, not rolled up", x -> x.would(6, 0, 3));
        answersOfWhatIs("rolled up in thought", x -> x.cost(0));
        answersOfWhatIs("others asked", ThoughtTest::otherSumsAsked);
        answersOfWhatIs("the image taken", x -> x.image(true));
        Check.close("ThoughtTest");
    }
}

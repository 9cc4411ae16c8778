import java.util.Arrays;

/**
 * Units of an organisation in a tree, each with own entries by categories, and the sums of whole
 * branches as they were rolled up. The promises that the comments name by number are those of
 * ../shared/DOC.md; its words in capitals are used here in just that sense.
 */
public final class BranchSums {
    public static final int NONE = -1;

    private static final int UNITS = 24;
    private static final int CATEGORIES = 64;
    private static final int HEAD = 0;
    private static final int ABSENT = -2;
    private static final int DEEPEST = 12;
    private static final int MOST_OWN = 9999;
    private static final int VERSIONS = 8;
    private static final int ACTS = 10;
    private static final int LIMITS = 12;
    private static final int MOST_LIMIT = 999999;
    private static final int MOST_SEATS = 200;
    private static final int MOST_DRAWN = 50;
    private static final int MOST_HALVED = 12;
    private static final int REPORTED = 5;
    private static final int TAPE = 400;
    private static final int NO_GROWTH = NONE - 99999;

    private static final int MERGE_COST = 0;
    private static final int SPLIT_COST = 1;
    private static final int MERGES = 2;
    private static final int SPLITS = 3;
    private static final int ROLLED = 4;
    private static final int MOVED = 5;
    private static final int CAME = 6;
    private static final int WENT = 7;
    private static final int GIVEN = 8;
    private static final int UNDONE = 9;
    private static final int RECODED = 10;
    private static final int COUNTS = 11;

    private final Org now = new Org();
    private final Org thought = new Org();
    private final Past past = new Past();
    private final Book book = new Book();
    private final Book imageBook = new Book();
    private final Roller roller = new Roller();
    private final Tape tape = new Tape();
    private final Report chosen = new Report();
    private final int[][] branches = new int[UNITS][CATEGORIES];
    private final int[] spare = new int[CATEGORIES];
    private final Org imageOrg = new Org();
    private boolean hasImage = false;

    public BranchSums() {
    }

    // ---- Acts

    public int add(int unit, int category, int n) {
        if (!now.isThere(unit) || !isCategory(category)) return NONE;
        if (n == 0 || n < -MOST_OWN || n > MOST_OWN) return NONE;
        int then = now.own[unit][category] + n;
        if (then < 0 || then > MOST_OWN) return NONE;
        past.keep(now);
        now.own[unit][category] = then;
        now.makeStale(unit);
        return then;
    }

    public boolean comes(int unit, int below) {
        if (!isUnit(unit) || now.isThere(unit) || !now.isThere(below)) return false;
        if (now.depthOf(below) >= DEEPEST) return false;
        past.keep(now);
        now.settle(unit, below);
        book.tally(CAME, 1);
        return true;
    }

    public int goes(int unit) {
        int upper = now.upperOf(unit);
        if (!now.isThere(unit) || !now.isThere(upper) || now.lowerCount(unit) > 0) return NONE;
        int[] part = now.own[unit];
        int[] heir = now.own[upper];
        if (!Rows.fits(part, 0, CATEGORIES - 1, heir)) return NONE;
        past.keep(now);
        int cost = Spans.common(Spans.maskOf(heir), Spans.maskOf(part));
        Rows.pour(part, 0, CATEGORIES - 1, heir);
        now.leave(unit);
        now.makeStale(upper);
        book.merged(cost);
        book.tally(WENT, 1);
        return cost;
    }

    public int move(int unit, int below) {
        if (!now.canMove(unit, below)) return NONE;
        past.keep(now);
        now.moveTo(unit, below);
        book.tally(MOVED, 1);
        return now.branchSize(unit);
    }

    public int give(int from, int to, int low, int high) {
        if (!now.isThere(from) || !now.isThere(to) || from == to || !isSpan(low, high)) return NONE;
        int[] giver = now.own[from];
        int[] taker = now.own[to];
        if (!Rows.fits(giver, low, high, taker)) return NONE;
        past.keep(now);
        long all = Spans.maskOf(giver);
        long part = all & Spans.bitsOf(low, high);
        book.parted(Spans.common(part, all & ~part));
        book.merged(Spans.common(part, Spans.maskOf(taker)));
        int given = Rows.pour(giver, low, high, taker);
        now.makeStale(from);
        now.makeStale(to);
        book.tally(GIVEN, given);
        return given;
    }

    public int roll(int unit) {
        if (!now.isThere(unit) || !now.stale[unit]) return NONE;
        past.keep(now);
        int cost = roller.rollAll(now, unit);
        book.tally(MERGE_COST, cost);
        book.tally(MERGES, roller.merges);
        book.tally(ROLLED, roller.rolled);
        return cost;
    }

    public int recode(int category, int other) {
        if (!isCategory(category) || !isCategory(other) || category == other) return NONE;
        int entries = 0;
        for (int u = 0; u < UNITS; u++) {
            if (!now.isThere(u)) continue;
            int n = now.own[u][category];
            if (n > 0 && now.own[u][other] + n > MOST_OWN) return NONE;
            entries += n;
        }
        if (entries == 0) return NONE;
        past.keep(now);
        for (int u = 0; u < UNITS; u++) {
            if (now.isThere(u) && now.own[u][category] > 0) recodeOwn(u, category, other);
        }
        book.tally(RECODED, entries);
        return entries;
    }

    private void recodeOwn(int unit, int category, int other) {
        int[] row = now.own[unit];
        long part = Spans.bitsOf(category, category);
        long rest = Spans.maskOf(row) & ~part;
        book.parted(Spans.common(part, rest));
        book.merged(Spans.common(Spans.bitsOf(other, other), rest));
        row[other] += row[category];
        row[category] = 0;
        now.makeStale(unit);
    }

    public int text() {
        int told = tape.readInto(thought);
        if (told == NONE) return NONE;
        past.keep(now);
        now.takeOver(thought);
        return told;
    }

    public int undo() {
        if (!past.takeBack(now)) return NONE;
        book.tally(UNDONE, 1);
        return past.size;
    }

    // ---- What is told besides the acts

    public int limit(int unit, int low, int high, int n) {
        if (!isUnit(unit) || !isSpan(low, high) || n < NONE || n > MOST_LIMIT) return NONE;
        boolean stands = n == NONE ? book.dropLimit(unit, low, high) : book.tellLimit(unit, low, high, n);
        return stands ? book.limits : NONE;
    }

    public int broken(int i, int what) {
        if (i == NONE) return brokenCount();
        if (i < 0 || what < 0 || what > 1) return NONE;
        int ahead = 0;
        for (int k = 0; k < book.limits && k < LIMITS; k++) {
            int excess = excessOver(k);
            if (excess <= 0) continue;
            if (ahead == i) return what == 0 ? book.limitUnit[k] : excess;
            ahead++;
        }
        return NONE;
    }

    private int brokenCount() {
        int count = 0;
        for (int k = 0; k < book.limits && k < LIMITS; k++) {
            if (excessOver(k) > 0) count++;
        }
        return count;
    }

    private int excessOver(int k) {
        int unit = book.limitUnit[k];
        if (!now.isThere(unit)) return 0;
        return Rows.totalOf(now.sums[unit], book.limitLow[k], book.limitHigh[k]) - book.limitMost[k];
    }

    public int state(int v) {
        int was = book.drawState;
        book.drawState = v;
        return was;
    }

    public int feed(int a, int b, int c, int d, int e) {
        if (!tape.hasRoom(20)) return NONE;
        tape.putNumber(a);
        tape.putNumber(b);
        tape.putNumber(c);
        tape.putNumber(d);
        tape.putNumber(e);
        return tape.length;
    }

    public boolean end(int n) {
        return tape.cut(n);
    }

    public int fault(int what) {
        if (what == 0) return tape.fault;
        return what == 1 ? tape.place : NONE;
    }

    public boolean image(boolean taken) {
        if (taken) {
            imageOrg.takeOver(now);
            imageBook.takeOver(book);
            hasImage = true;
            return true;
        }
        if (!hasImage) return false;
        now.takeOver(imageOrg);
        book.takeOver(imageBook);
        past.forget();
        return true;
    }

    // ---- The tree and its numbers

    public int unit(int unit, int what) {
        if (!now.isThere(unit)) return NONE;
        int[] own = now.own[unit];
        int[] sum = now.sums[unit];
        switch (what) {
            case 0: return now.upperOf(unit);
            case 1: return now.depthOf(unit);
            case 2: return now.lowerCount(unit);
            case 3: return now.branchSize(unit);
            case 4: return now.stale[unit] ? 1 : 0;
            case 5: return Rows.unlikeness(sum, branchSumOf(unit)) == 0 ? 1 : 0;
            case 6: return Rows.allOf(own);
            case 7: return Spans.nodesOf(Spans.maskOf(own));
            case 8: return Rows.allOf(sum);
            case 9: return Spans.nodesOf(Spans.maskOf(sum));
            case 10: return Long.bitCount(Spans.maskOf(sum));
            case 11: return Rows.allOf(branchSumOf(unit));
            default: return NONE;
        }
    }

    private int[] branchSumOf(int unit) {
        now.sumBranches(branches);
        return branches[unit];
    }

    public int below(int unit, int i) {
        return now.lowerAt(unit, i);
    }

    public int above(int unit, int k) {
        if (!now.isThere(unit) || k < 0 || k > DEEPEST) return NONE;
        int u = unit;
        for (int i = 0; i < k && u != NONE; i++) u = now.upperOf(u);
        return u;
    }

    public int both(int unit, int other) {
        return now.meetingOf(unit, other);
    }

    public int of(int unit, int category, int what) {
        if (!now.isThere(unit) || !isCategory(category)) return NONE;
        switch (what) {
            case 0: return now.own[unit][category];
            case 1: return now.sums[unit][category];
            case 2: return branchSumOf(unit)[category];
            default: return NONE;
        }
    }

    public int chain(int unit, int other, int category) {
        int top = now.meetingOf(unit, other);
        if (top == NONE || (category != NONE && !isCategory(category))) return NONE;
        int found = 0;
        for (int u = 0; u < UNITS; u++) {
            if (!now.isOnChain(u, unit, other, top)) continue;
            found += category == NONE ? Rows.allOf(now.own[u]) : now.own[u][category];
        }
        return found;
    }

    public int hops(int unit, int other) {
        int top = now.meetingOf(unit, other);
        if (top == NONE) return NONE;
        return now.depthOf(unit) + now.depthOf(other) - 2 * now.depthOf(top) + 1;
    }

    // ---- One sum

    public int ranked(int unit, int rank) {
        return now.isThere(unit) ? Rows.categoryAt(now.sums[unit], rank) : NONE;
    }

    public int less(int unit, int category) {
        if (!now.isThere(unit) || category < 0 || category > CATEGORIES) return NONE;
        return Rows.totalOf(now.sums[unit], 0, category - 1);
    }

    public int leader(int unit, int i, int what) {
        if (!now.isThere(unit) || what < 0 || what > 1) return NONE;
        int[] sum = now.sums[unit];
        int category = Rows.leaderAt(sum, i);
        if (category == NONE) return NONE;
        return what == 0 ? category : sum[category];
    }

    public int median(int unit) {
        if (!now.isThere(unit)) return NONE;
        int all = Rows.allOf(now.sums[unit]);
        return all == 0 ? NONE : Rows.categoryAt(now.sums[unit], (all - 1) / 2);
    }

    public long heavy(int unit, int p) {
        if (!now.isThere(unit) || p < 0 || p > 100) return 0L;
        int[] sum = now.sums[unit];
        long all = Rows.allOf(sum);
        long found = 0L;
        for (int c = 0; c < CATEGORIES; c++) {
            if (100L * sum[c] > p * all) found |= 1L << c;
        }
        return found;
    }

    public long squares(int unit) {
        if (!now.isThere(unit)) return NONE;
        int[] sum = now.sums[unit];
        long found = 0L;
        for (int c = 0; c < CATEGORIES; c++) found += (long) sum[c] * sum[c];
        return found;
    }

    public int seats(int unit, int n, int category) {
        if (!now.isThere(unit) || n < 0 || n > MOST_SEATS || !isCategory(category)) return NONE;
        Arrays.fill(spare, 0);
        for (int i = 0; i < n; i++) {
            int c = Rows.nextSeat(now.sums[unit], spare);
            if (c == NONE) break;
            spare[c]++;
        }
        return spare[category];
    }

    public int percent(int unit, int category) {
        if (!now.isThere(unit) || !isCategory(category)) return NONE;
        return Rows.percentOf(now.sums[unit], category);
    }

    public int quantile(int unit, int p) {
        if (!now.isThere(unit) || p < 1 || p > 100) return NONE;
        return Rows.quantileOf(now.sums[unit], p);
    }

    public int few(int unit, int p) {
        if (!now.isThere(unit) || p < 1 || p > 100) return NONE;
        return Rows.fewestOf(now.sums[unit], p);
    }

    public int run(int unit, int i, int what) {
        if (!now.isThere(unit)) return NONE;
        int[] sum = now.sums[unit];
        if (i == NONE) return Rows.runCount(sum);
        int first = Rows.runAt(sum, i);
        if (first == NONE) return NONE;
        int last = Rows.runEnd(sum, first);
        switch (what) {
            case 0: return first;
            case 1: return last;
            case 2: return Rows.totalOf(sum, first, last);
            default: return NONE;
        }
    }

    public int report(int unit) {
        chosen.clear();
        if (!now.isThere(unit)) return NONE;
        chosen.tell(unit, now.sums[unit]);
        return chosen.length;
    }

    public int sign(int i) {
        return chosen.signAt(i);
    }

    public int drawn(int unit, int n, int category) {
        if (!now.isThere(unit) || n < 1 || n > MOST_DRAWN || !isCategory(category)) return NONE;
        System.arraycopy(now.sums[unit], 0, spare, 0, CATEGORIES);
        int left = Rows.allOf(spare);
        int hits = 0;
        for (int i = 0; i < n && left > 0; i++) {
            int c = Rows.categoryAt(spare, book.drawOf(left));
            if (c == NONE) break;
            spare[c]--;
            left--;
            if (c == category) hits++;
        }
        return hits;
    }

    // ---- Versions of a sum

    public int versions(int unit) {
        return now.isThere(unit) ? now.oldCount[unit] : NONE;
    }

    public int was(int unit, int v, int category) {
        if (!now.hasVersion(unit, v) || !isCategory(category)) return NONE;
        return now.olds[unit * VERSIONS + v][category];
    }

    public int grew(int unit, int v, int what) {
        if (v < 1 || !now.hasVersion(unit, v)) return NO_GROWTH;
        int[] latest = now.olds[unit * VERSIONS];
        int[] earlier = now.olds[unit * VERSIONS + v];
        int most = 0;
        int least = 0;
        int changed = 0;
        for (int c = 0; c < CATEGORIES; c++) {
            int grown = latest[c] - earlier[c];
            if (grown != 0) changed++;
            if (grown > latest[most] - earlier[most]) most = c;
            if (grown < latest[least] - earlier[least]) least = c;
        }
        switch (what) {
            case 0: return most;
            case 1: return latest[most] - earlier[most];
            case 2: return least;
            case 3: return earlier[least] - latest[least];
            case 4: return changed;
            default: return NO_GROWTH;
        }
    }

    // ---- Several sums

    public int twin(int unit) {
        if (!now.isThere(unit)) return NONE;
        int best = NONE;
        int least = 0;
        for (int u = 0; u < UNITS; u++) {
            if (u == unit || !now.isThere(u)) continue;
            int apart = Rows.unlikeness(now.sums[unit], now.sums[u]);
            if (best == NONE || apart < least) {
                best = u;
                least = apart;
            }
        }
        return best;
    }

    public int halves(int unit, int what) {
        int parts = now.lowerCount(unit);
        if (!now.isThere(unit) || what < 0 || what > 1 || parts > MOST_HALVED) return NONE;
        for (int i = 0; i < parts; i++) {
            int u = now.lowerAt(unit, i);
            spare[i] = now.isThere(u) ? Rows.allOf(now.sums[u]) : 0;
        }
        int choice = Rows.halvingOf(spare, parts);
        int set = 0;
        int apart = 0;
        for (int i = 0; i < parts; i++) {
            boolean isIn = (choice >> i & 1) != 0;
            if (isIn) set |= 1 << now.lowerAt(unit, i);
            apart += isIn ? spare[i] : -spare[i];
        }
        return what == 0 ? set : Math.abs(apart);
    }

    public int unlike(int unit, int other) {
        if (!now.isThere(unit) || !now.isThere(other)) return NONE;
        return Rows.unlikeness(now.sums[unit], now.sums[other]);
    }

    public int shared(int unit, int other, int what) {
        if (!now.isThere(unit) || !now.isThere(other)) return NONE;
        long mask = Spans.maskOf(now.sums[unit]);
        long otherMask = Spans.maskOf(now.sums[other]);
        switch (what) {
            case 0: return Long.bitCount(mask & otherMask);
            case 1: return Long.bitCount(mask | otherMask);
            case 2: return Spans.common(mask, otherMask);
            case 3: return Rows.lesserOf(now.sums[unit], now.sums[other]);
            default: return NONE;
        }
    }

    public int leads(int category) {
        if (!isCategory(category)) return NONE;
        int set = 0;
        for (int u = 0; u < UNITS; u++) {
            if (now.isThere(u) && Rows.firstLeader(now.sums[u]) == category) set |= 1 << u;
        }
        return set;
    }

    public int where(int category, int k) {
        if (!isCategory(category) || k < 1 || k > MOST_LIMIT) return NONE;
        int best = NONE;
        for (int u = 0; u < UNITS; u++) {
            if (!now.isThere(u) || now.sums[u][category] < k) continue;
            if (best == NONE || now.depthOf(u) > now.depthOf(best)) best = u;
        }
        return best;
    }

    // ---- In thought

    public int cost(int unit) {
        if (!now.isThere(unit)) return NONE;
        thought.takeOver(now);
        return roller.rollAll(thought, unit);
    }

    public int would(int unit, int below, int what) {
        if (what < 0 || what > 3 || !now.canMove(unit, below)) return NONE;
        thought.takeOver(now);
        thought.moveTo(unit, below);
        if (what == 3) return thought.staleSet();
        int cost = roller.rollAll(thought, HEAD);
        if (what == 0) return cost;
        return what == 1 ? Rows.firstLeader(thought.sums[below]) : otherLeaders();
    }

    private int otherLeaders() {
        int count = 0;
        for (int u = 0; u < UNITS; u++) {
            if (!now.isThere(u)) continue;
            if (Rows.firstLeader(now.sums[u]) != Rows.firstLeader(thought.sums[u])) count++;
        }
        return count;
    }

    public int home(int unit) {
        if (unit == HEAD || !now.isThere(unit)) return NONE;
        now.sumBranches(branches);
        int best = NONE;
        int least = 0;
        for (int u = 0; u < UNITS; u++) {
            if (u != now.upperOf(unit) && !now.canMove(unit, u)) continue;
            int apart = apartFromHome(unit, u);
            if (best == NONE || apart < least) {
                best = u;
                least = apart;
            }
        }
        return best;
    }

    private int apartFromHome(int unit, int home) {
        System.arraycopy(branches[home], 0, spare, 0, CATEGORIES);
        if (now.isInBranch(unit, home)) {
            for (int c = 0; c < CATEGORIES; c++) spare[c] -= branches[unit][c];
        }
        return Rows.unlikeness(spare, branches[unit]);
    }

    // ---- All of it

    public int count(int what) {
        return what >= 0 && what < COUNTS ? book.counts[what] : NONE;
    }

    public int look(int what) {
        switch (what) {
            case 0: return now.thereSet();
            case 1: return now.staleSet();
            case 2: return rightSet();
            case 3: return Integer.bitCount(now.thereSet());
            case 4: return now.heightOf(HEAD);
            case 5: return past.size;
            case 6: return tape.length;
            case 7: return ownEntries();
            case 8: return sumNodes();
            case 9: return unusedCategories();
            case 10: return book.limits;
            case 11: return brokenCount();
            case 12: return apartFromImage();
            default: return NONE;
        }
    }

    private int rightSet() {
        now.sumBranches(branches);
        int set = 0;
        for (int u = 0; u < UNITS; u++) {
            if (now.isThere(u) && Rows.unlikeness(now.sums[u], branches[u]) == 0) set |= 1 << u;
        }
        return set;
    }

    private int ownEntries() {
        int entries = 0;
        for (int u = 0; u < UNITS; u++) {
            if (now.isThere(u)) entries += Rows.allOf(now.own[u]);
        }
        return entries;
    }

    private int sumNodes() {
        int nodes = 0;
        for (int u = 0; u < UNITS; u++) {
            if (now.isThere(u)) nodes += Spans.nodesOf(Spans.maskOf(now.sums[u]));
        }
        return nodes;
    }

    private int unusedCategories() {
        long used = 0L;
        for (int u = 0; u < UNITS; u++) {
            if (now.isThere(u)) used |= Spans.maskOf(now.own[u]);
        }
        return CATEGORIES - Long.bitCount(used);
    }

    private int apartFromImage() {
        if (!hasImage) return 0;
        int set = 0;
        for (int u = 0; u < UNITS; u++) {
            if (now.upper[u] != imageOrg.upper[u]) set |= 1 << u;
        }
        return set;
    }

    private static boolean isUnit(int unit) {
        return unit >= 0 && unit < UNITS;
    }

    private static boolean isCategory(int category) {
        return category >= 0 && category < CATEGORIES;
    }

    private static boolean isSpan(int low, int high) {
        return low >= 0 && low <= high && high < CATEGORIES;
    }

    /** What undo takes back: the units, their OWN, their SUMS and the VERSIONS of these. */
    private static final class Org {
        final int[] upper = new int[UNITS];
        final boolean[] stale = new boolean[UNITS];
        final int[][] own = new int[UNITS][CATEGORIES];
        final int[][] sums = new int[UNITS][CATEGORIES];
        final int[] oldCount = new int[UNITS];
        final int[][] olds = new int[UNITS * VERSIONS][CATEGORIES];

        Org() {
            Arrays.fill(upper, ABSENT);
            upper[HEAD] = NONE;
        }

        void takeOver(Org other) {
            System.arraycopy(other.upper, 0, upper, 0, UNITS);
            System.arraycopy(other.stale, 0, stale, 0, UNITS);
            System.arraycopy(other.oldCount, 0, oldCount, 0, UNITS);
            for (int u = 0; u < UNITS; u++) {
                System.arraycopy(other.own[u], 0, own[u], 0, CATEGORIES);
                System.arraycopy(other.sums[u], 0, sums[u], 0, CATEGORIES);
                for (int v = 0; v < oldCount[u] && v < VERSIONS; v++) {
                    int at = u * VERSIONS + v;
                    System.arraycopy(other.olds[at], 0, olds[at], 0, CATEGORIES);
                }
            }
        }

        void startAnew() {
            for (int u = 0; u < UNITS; u++) leave(u);
            upper[HEAD] = NONE;
        }

        void settle(int unit, int home) {
            upper[unit] = home;
        }

        /** Leaves nothing of the unit behind, so that it comes without anything another time. */
        void leave(int unit) {
            upper[unit] = ABSENT;
            stale[unit] = false;
            oldCount[unit] = 0;
            Arrays.fill(own[unit], 0);
            Arrays.fill(sums[unit], 0);
        }

        boolean isThere(int unit) {
            return unit >= 0 && unit < UNITS && upper[unit] != ABSENT;
        }

        int upperOf(int unit) {
            return isThere(unit) ? upper[unit] : NONE;
        }

        int depthOf(int unit) {
            int depth = 0;
            for (int u = upperOf(unit); u != NONE && depth < DEEPEST; u = upperOf(u)) depth++;
            return depth;
        }

        boolean isInBranch(int unit, int top) {
            int u = unit;
            for (int i = 0; i <= DEEPEST && u != NONE; i++) {
                if (u == top) return true;
                u = upperOf(u);
            }
            return false;
        }

        int branchSize(int unit) {
            int size = 0;
            for (int u = 0; u < UNITS; u++) {
                if (isThere(u) && isInBranch(u, unit)) size++;
            }
            return size;
        }

        int heightOf(int unit) {
            int deepest = depthOf(unit);
            for (int u = 0; u < UNITS; u++) {
                if (isThere(u) && isInBranch(u, unit)) deepest = Math.max(deepest, depthOf(u));
            }
            return deepest - depthOf(unit);
        }

        int lowerCount(int unit) {
            int count = 0;
            for (int u = 0; u < UNITS; u++) {
                if (isThere(unit) && upper[u] == unit) count++;
            }
            return count;
        }

        int lowerAt(int unit, int i) {
            if (!isThere(unit) || i < 0) return NONE;
            int ahead = 0;
            for (int u = 0; u < UNITS; u++) {
                if (upper[u] != unit) continue;
                if (ahead == i) return u;
                ahead++;
            }
            return NONE;
        }

        int meetingOf(int unit, int other) {
            if (!isThere(unit) || !isThere(other)) return NONE;
            int u = unit;
            for (int i = 0; i <= DEEPEST && u != NONE; i++) {
                if (isInBranch(other, u)) return u;
                u = upperOf(u);
            }
            return NONE;
        }

        boolean isOnChain(int u, int unit, int other, int top) {
            return isThere(u) && isInBranch(u, top) && (isInBranch(unit, u) || isInBranch(other, u));
        }

        boolean canMove(int unit, int home) {
            if (!isThere(unit) || !isThere(home) || isInBranch(home, unit)) return false;
            return upper[unit] != home && depthOf(home) + 1 + heightOf(unit) <= DEEPEST;
        }

        void moveTo(int unit, int home) {
            makeStale(upperOf(unit));
            upper[unit] = home;
            makeStale(home);
        }

        /** A sum that lacks something makes all that it goes into lack it. */
        void makeStale(int unit) {
            int u = unit;
            for (int i = 0; i <= DEEPEST && isThere(u); i++) {
                stale[u] = true;
                u = upperOf(u);
            }
        }

        int thereSet() {
            int set = 0;
            for (int u = 0; u < UNITS; u++) {
                if (isThere(u)) set |= 1 << u;
            }
            return set;
        }

        int staleSet() {
            int set = 0;
            for (int u = 0; u < UNITS; u++) {
                if (isThere(u) && stale[u]) set |= 1 << u;
            }
            return set;
        }

        /** From the deepest units up, so that each row is whole before it is added to the next. */
        void sumBranches(int[][] rows) {
            for (int u = 0; u < UNITS; u++) System.arraycopy(own[u], 0, rows[u], 0, CATEGORIES);
            for (int depth = DEEPEST; depth > 0; depth--) {
                for (int u = 0; u < UNITS; u++) {
                    int home = upperOf(u);
                    if (isThere(home) && depthOf(u) == depth) Rows.addTo(rows[home], rows[u]);
                }
            }
        }

        boolean hasVersion(int unit, int v) {
            return isThere(unit) && v >= 0 && v < oldCount[unit];
        }

        void rolledUp(int unit, int[] sum) {
            System.arraycopy(sum, 0, sums[unit], 0, CATEGORIES);
            stale[unit] = false;
            int first = unit * VERSIONS;
            int[] row = olds[first + VERSIONS - 1];
            for (int at = first + VERSIONS - 1; at > first; at--) olds[at] = olds[at - 1];
            olds[first] = row;
            System.arraycopy(sum, 0, row, 0, CATEGORIES);
            oldCount[unit] = Math.min(oldCount[unit] + 1, VERSIONS);
        }
    }

    /** What undo leaves alone, but THE IMAGE brings back: counts, LIMITS and STATE. */
    private static final class Book {
        final int[] counts = new int[COUNTS];
        final int[] limitUnit = new int[LIMITS];
        final int[] limitLow = new int[LIMITS];
        final int[] limitHigh = new int[LIMITS];
        final int[] limitMost = new int[LIMITS];
        int limits = 0;
        int drawState = 0;

        void takeOver(Book other) {
            System.arraycopy(other.counts, 0, counts, 0, COUNTS);
            System.arraycopy(other.limitUnit, 0, limitUnit, 0, LIMITS);
            System.arraycopy(other.limitLow, 0, limitLow, 0, LIMITS);
            System.arraycopy(other.limitHigh, 0, limitHigh, 0, LIMITS);
            System.arraycopy(other.limitMost, 0, limitMost, 0, LIMITS);
            limits = other.limits;
            drawState = other.drawState;
        }

        void tally(int what, int n) {
            if (what >= 0 && what < COUNTS) counts[what] += n;
        }

        void merged(int cost) {
            tally(MERGE_COST, cost);
            tally(MERGES, 1);
        }

        void parted(int cost) {
            tally(SPLIT_COST, cost);
            tally(SPLITS, 1);
        }

        private int limitAt(int unit, int low, int high) {
            for (int k = 0; k < limits && k < LIMITS; k++) {
                if (limitUnit[k] == unit && limitLow[k] == low && limitHigh[k] == high) return k;
            }
            return NONE;
        }

        boolean tellLimit(int unit, int low, int high, int n) {
            int k = limitAt(unit, low, high);
            if (k == NONE) {
                if (limits >= LIMITS) return false;
                k = limits;
                limits++;
            }
            limitUnit[k] = unit;
            limitLow[k] = low;
            limitHigh[k] = high;
            limitMost[k] = n;
            return true;
        }

        boolean dropLimit(int unit, int low, int high) {
            int k = limitAt(unit, low, high);
            if (k == NONE) return false;
            limits--;
            for (int i = k; i < limits && i + 1 < LIMITS; i++) {
                limitUnit[i] = limitUnit[i + 1];
                limitLow[i] = limitLow[i + 1];
                limitHigh[i] = limitHigh[i + 1];
                limitMost[i] = limitMost[i + 1];
            }
            return true;
        }

        int drawOf(int m) {
            drawState = 1664525 * drawState + 1013904223;
            return m > 0 ? (drawState >>> 8) % m : 0;
        }
    }

    /** The latest acts, each as all was ahead of it, in turn in the same places. */
    private static final class Past {
        private final Org[] kept = new Org[ACTS];
        private int next = 0;
        int size = 0;

        /** All that acts are kept in is made here, so that no call makes anything. */
        Past() {
            for (int i = 0; i < ACTS; i++) kept[i] = new Org();
        }

        void keep(Org org) {
            Org slot = kept[next];
            if (slot == null) return;
            slot.takeOver(org);
            next = (next + 1) % ACTS;
            size = Math.min(size + 1, ACTS);
        }

        boolean takeBack(Org org) {
            int latest = (next + ACTS - 1) % ACTS;
            Org slot = kept[latest];
            if (size == 0 || slot == null) return false;
            org.takeOver(slot);
            next = latest;
            size--;
            return true;
        }

        void forget() {
            size = 0;
        }
    }

    /** Rolls units up, for good or in thought, and tells what the latest rolling up took. */
    private static final class Roller {
        private final int[] row = new int[CATEGORIES];
        private int cost = 0;
        int merges = 0;
        int rolled = 0;

        int rollAll(Org org, int unit) {
            cost = 0;
            merges = 0;
            rolled = 0;
            rollBranch(org, unit, 0);
            return cost;
        }

        private void rollBranch(Org org, int unit, int level) {
            if (level > DEEPEST || !org.isThere(unit) || !org.stale[unit]) return;
            for (int u = 0; u < UNITS; u++) {
                if (org.upper[u] == unit) rollBranch(org, u, level + 1);
            }
            mergeParts(org, unit, keptPart(org, unit));
            org.rolledUp(unit, row);
            rolled++;
        }

        private void mergeParts(Org org, int unit, int kept) {
            int[] start = kept == unit ? org.own[unit] : org.sums[kept];
            System.arraycopy(start, 0, row, 0, CATEGORIES);
            for (int u = 0; u < UNITS; u++) {
                if (org.upper[u] == unit && u != kept) mergeIn(org.sums[u]);
            }
            if (kept != unit) mergeIn(org.own[unit]);
        }

        /** The unit right below whose SUM has the most NODES, or the unit itself for its OWN. */
        private static int keptPart(Org org, int unit) {
            int kept = unit;
            int most = NONE;
            for (int u = 0; u < UNITS; u++) {
                if (org.upper[u] != unit) continue;
                int nodes = Spans.nodesOf(Spans.maskOf(org.sums[u]));
                if (nodes > most) {
                    kept = u;
                    most = nodes;
                }
            }
            return Spans.nodesOf(Spans.maskOf(org.own[unit])) > most ? unit : kept;
        }

        private void mergeIn(int[] part) {
            cost += Spans.common(Spans.maskOf(row), Spans.maskOf(part));
            merges++;
            Rows.addTo(row, part);
        }
    }

    /** The chosen REPORT, with room for the longest one. */
    private static final class Report {
        private static final int MOST_SIGNS = 64;
        private static final int GREATEST_TENS = 1000000000;

        private final int[] signs = new int[MOST_SIGNS];
        int length = 0;

        void clear() {
            length = 0;
        }

        int signAt(int i) {
            return i >= 0 && i < length && i < MOST_SIGNS ? signs[i] : NONE;
        }

        void tell(int unit, int[] sum) {
            int leaders = Long.bitCount(Spans.maskOf(sum));
            putNumber(unit);
            put(':');
            for (int i = 0; i < leaders && i < REPORTED; i++) {
                int category = Rows.leaderAt(sum, i);
                if (category == NONE) break;
                put(' ');
                putNumber(category);
                put('x');
                putNumber(sum[category]);
            }
            if (leaders > REPORTED) {
                put(' ');
                put('+');
                putNumber(leaders - REPORTED);
            }
        }

        private void put(int sign) {
            if (length >= MOST_SIGNS) return;
            signs[length] = sign;
            length++;
        }

        private void putNumber(int number) {
            for (int tens = GREATEST_TENS; tens > 0; tens /= 10) {
                if (number >= tens || tens == 1) put('0' + number / tens % 10);
            }
        }
    }

    /** THE TAPE, and the reading of it as a TEXT. */
    private static final class Tape {
        private static final int CANT_STAND = 1;
        private static final int CANT_BE = 2;
        private static final int TOLD_ALREADY = 3;
        private static final int TOO_DEEP = 4;

        private final int[] bytes = new int[TAPE];
        int length = 0;
        int fault = 0;
        int place = NONE;
        private int at = 0;
        private int value = 0;
        private int begin = 0;

        boolean hasRoom(int n) {
            return length + n <= TAPE;
        }

        void putNumber(int number) {
            for (int shift = 24; shift >= 0 && length < TAPE; shift -= 8) {
                bytes[length] = number >>> shift & 255;
                length++;
            }
        }

        boolean cut(int n) {
            if (n < 0 || n > length) return false;
            length = n;
            return true;
        }

        /** How many UNITS the TEXT tells into an org of its own; NONE by a FAULT. */
        int readInto(Org org) {
            fault = 0;
            place = NONE;
            at = 0;
            org.startAnew();
            boolean whole = readHead() && readUnits(org) && readEntries(org);
            length = 0;
            if (!whole) return NONE;
            for (int u = 0; u < UNITS; u++) org.stale[u] = org.isThere(u);
            return Integer.bitCount(org.thereSet());
        }

        private boolean readHead() {
            if (!readNumber()) return false;
            return value == HEAD || refuse(CANT_BE, begin);
        }

        /** What stands behind the HEAD in org: every round takes a byte at least. */
        private boolean readUnits(Org org) {
            int open = NONE;
            int latest = HEAD;
            for (int i = 0; i <= TAPE; i++) {
                int sign = nextSign();
                if (sign == '(' && latest != NONE) {
                    at++;
                    open = latest;
                    latest = readUnit(org, open);
                    if (latest == NONE) return false;
                } else if (sign == ')' && open != NONE) {
                    at++;
                    open = org.upperOf(open);
                    latest = NONE;
                } else if (isDigit(sign) && open != NONE) {
                    latest = readUnit(org, open);
                    if (latest == NONE) return false;
                } else {
                    return open == NONE || refuse(CANT_STAND, at);
                }
            }
            return false;
        }

        private int readUnit(Org org, int home) {
            if (!readNumber()) return NONE;
            int kind = 0;
            if (value >= UNITS) kind = CANT_BE;
            else if (org.isThere(value)) kind = TOLD_ALREADY;
            else if (org.depthOf(home) >= DEEPEST) kind = TOO_DEEP;
            if (kind != 0) {
                refuse(kind, begin);
                return NONE;
            }
            org.settle(value, home);
            return value;
        }

        private boolean readEntries(Org org) {
            for (int i = 0; i <= TAPE; i++) {
                if (nextSign() == NONE) return true;
                if (!takeSign(';')) return false;
                if (nextSign() == NONE) return true;
                if (!readEntry(org)) return false;
            }
            return false;
        }

        private boolean readEntry(Org org) {
            if (!readNumber()) return false;
            if (!org.isThere(value)) return refuse(CANT_BE, begin);
            int[] row = org.own[value];
            char ahead = ':';
            for (int i = 0; i <= TAPE; i++) {
                if (!takeSign(ahead) || !readAmount(row)) return false;
                if (nextSign() != ',') return true;
                ahead = ',';
            }
            return false;
        }

        private boolean readAmount(int[] row) {
            if (!readNumber()) return false;
            int category = value;
            if (!isCategory(category)) return refuse(CANT_BE, begin);
            if (row[category] > 0) return refuse(TOLD_ALREADY, begin);
            if (!takeSign('x') || !readNumber()) return false;
            if (value < 1 || value > MOST_OWN) return refuse(CANT_BE, begin);
            row[category] = value;
            return true;
        }

        /** As many digits as stand there; far above all that can be, more of them tell no more. */
        private boolean readNumber() {
            if (!isDigit(nextSign())) return refuse(CANT_STAND, at);
            begin = at;
            value = 0;
            while (at < length && at < TAPE && isDigit(bytes[at])) {
                value = Math.min(value * 10 + bytes[at] - '0', 1000000);
                at++;
            }
            return true;
        }

        private boolean takeSign(char wanted) {
            if (nextSign() != wanted) return refuse(CANT_STAND, at);
            at++;
            return true;
        }

        private int nextSign() {
            while (at < length && at < TAPE && bytes[at] == ' ') at++;
            return at < length && at < TAPE ? bytes[at] : NONE;
        }

        private static boolean isDigit(int sign) {
            return sign >= '0' && sign <= '9';
        }

        private boolean refuse(int kind, int where) {
            fault = kind;
            place = where;
            return false;
        }
    }

    /** TREES of rows as sets of bits: bit c stands for a number above 0 of CATEGORY c. */
    private static final class Spans {
        private static final int LEVELS = 7;
        private static final long[] FIRSTS = {
            -1L, 0x5555555555555555L, 0x1111111111111111L, 0x0101010101010101L,
            0x0001000100010001L, 0x0000000100000001L, 1L
        };

        static long maskOf(int[] row) {
            long mask = 0L;
            for (int c = 0; c < CATEGORIES && c < row.length; c++) {
                if (row[c] > 0) mask |= 1L << c;
            }
            return mask;
        }

        static long bitsOf(int low, int high) {
            return -1L >>> (CATEGORIES - 1 - (high - low)) << low;
        }

        static int nodesOf(long mask) {
            return common(mask, mask);
        }

        /** A span is held by the bit of its first category, and those of twice the width come from pairs. */
        static int common(long mask, long other) {
            int spans = 0;
            long a = mask;
            long b = other;
            for (int level = 0; level < LEVELS; level++) {
                if (level > 0) {
                    int half = 1 << (level - 1);
                    a = (a | a >>> half) & FIRSTS[level];
                    b = (b | b >>> half) & FIRSTS[level];
                }
                spans += Long.bitCount(a & b);
            }
            return spans;
        }
    }

    /** What can be told of rows of numbers by CATEGORIES. */
    private static final class Rows {
        static int totalOf(int[] row, int low, int high) {
            int total = 0;
            for (int c = Math.max(low, 0); c <= high && c < row.length; c++) total += row[c];
            return total;
        }

        static int allOf(int[] row) {
            return totalOf(row, 0, CATEGORIES - 1);
        }

        static void addTo(int[] row, int[] part) {
            for (int c = 0; c < CATEGORIES; c++) row[c] += part[c];
        }

        static boolean fits(int[] from, int low, int high, int[] to) {
            for (int c = low; c <= high && c < CATEGORIES; c++) {
                if (from[c] + to[c] > MOST_OWN) return false;
            }
            return true;
        }

        static int pour(int[] from, int low, int high, int[] to) {
            int poured = 0;
            for (int c = low; c <= high && c < CATEGORIES; c++) {
                poured += from[c];
                to[c] += from[c];
                from[c] = 0;
            }
            return poured;
        }

        static int unlikeness(int[] row, int[] other) {
            int apart = 0;
            for (int c = 0; c < CATEGORIES; c++) apart += Math.abs(row[c] - other[c]);
            return apart;
        }

        static int lesserOf(int[] row, int[] other) {
            int lesser = 0;
            for (int c = 0; c < CATEGORIES; c++) lesser += Math.min(row[c], other[c]);
            return lesser;
        }

        static int categoryAt(int[] row, int rank) {
            if (rank < 0) return NONE;
            int left = rank;
            for (int c = 0; c < CATEGORIES; c++) {
                if (left < row[c]) return c;
                left -= row[c];
            }
            return NONE;
        }

        static int firstLeader(int[] row) {
            return leaderAt(row, 0);
        }

        static int leaderAt(int[] row, int i) {
            int latest = NONE;
            for (int k = 0; k <= i && k < CATEGORIES; k++) {
                latest = leaderBehind(row, latest);
                if (latest == NONE) return NONE;
            }
            return i < CATEGORIES ? latest : NONE;
        }

        /** The next LEADER behind one, of all behind none. */
        private static int leaderBehind(int[] row, int leader) {
            int best = NONE;
            for (int c = 0; c < CATEGORIES; c++) {
                if (row[c] <= 0 || (leader >= 0 && !leadsOver(row, leader, c))) continue;
                if (best == NONE || row[c] > row[best]) best = c;
            }
            return best;
        }

        private static boolean leadsOver(int[] row, int a, int b) {
            return row[a] > row[b] || (row[a] == row[b] && a < b);
        }

        /** Quotients as exact fractions: each number times the other's divisor. */
        static int nextSeat(int[] row, int[] seated) {
            int best = NONE;
            for (int c = 0; c < CATEGORIES; c++) {
                if (row[c] <= 0) continue;
                if (best == NONE || (long) row[c] * (seated[best] + 1) > (long) row[best] * (seated[c] + 1)) best = c;
            }
            return best;
        }

        static int percentOf(int[] row, int category) {
            int all = allOf(row);
            if (all <= 0) return 0;
            int lacking = 100;
            int ahead = 0;
            int rest = 100 * row[category] % all;
            for (int c = 0; c < CATEGORIES; c++) {
                lacking -= 100 * row[c] / all;
                int other = 100 * row[c] % all;
                if (other > rest || (other == rest && c < category)) ahead++;
            }
            return 100 * row[category] / all + (ahead < lacking ? 1 : 0);
        }

        static int quantileOf(int[] row, int p) {
            long all = allOf(row);
            long found = 0L;
            for (int c = 0; c < CATEGORIES && all > 0; c++) {
                found += row[c];
                if (100L * found >= p * all) return c;
            }
            return NONE;
        }

        static int fewestOf(int[] row, int p) {
            long all = allOf(row);
            long found = 0L;
            int leader = NONE;
            for (int count = 1; count <= CATEGORIES; count++) {
                leader = leaderBehind(row, leader);
                if (leader == NONE) return NONE;
                found += row[leader];
                if (100L * found >= p * all) return count;
            }
            return NONE;
        }

        private static boolean startsRun(int[] row, int c) {
            return row[c] > 0 && (c == 0 || row[c - 1] <= 0);
        }

        static int runCount(int[] row) {
            int count = 0;
            for (int c = 0; c < CATEGORIES; c++) {
                if (startsRun(row, c)) count++;
            }
            return count;
        }

        static int runEnd(int[] row, int first) {
            int last = first;
            while (last + 1 < CATEGORIES && row[last + 1] > 0) last++;
            return last;
        }

        /** Where the i-th RUN begins, or the longest (NONE - 1), or the one with the most (NONE - 2). */
        static int runAt(int[] row, int i) {
            if (i == NONE - 1 || i == NONE - 2) return greatestRun(row, i == NONE - 1);
            int ahead = 0;
            for (int c = 0; c < CATEGORIES; c++) {
                if (!startsRun(row, c)) continue;
                if (ahead == i) return c;
                ahead++;
            }
            return NONE;
        }

        private static int greatestRun(int[] row, boolean byLength) {
            int best = NONE;
            int most = 0;
            for (int c = 0; c < CATEGORIES; c++) {
                if (!startsRun(row, c)) continue;
                int last = runEnd(row, c);
                int size = byLength ? last - c + 1 : totalOf(row, c, last);
                if (size > most) {
                    best = c;
                    most = size;
                }
            }
            return best;
        }

        /** The least set of a row's first numbers that is as near as may be to the others of them. */
        static int halvingOf(int[] row, int parts) {
            int count = Math.min(parts, MOST_HALVED);
            int best = 0;
            int apart = -totalOf(row, 0, count - 1);
            int least = Math.abs(apart);
            for (int choice = 1; choice < 1 << count; choice++) {
                // Counting on by one, the lowest bit that is set comes in, and all below it go out.
                int joins = Integer.bitCount((choice & -choice) - 1);
                apart += 2 * (row[joins] - totalOf(row, 0, joins - 1));
                if (Math.abs(apart) < least) {
                    best = choice;
                    least = Math.abs(apart);
                }
            }
            return best;
        }
    }
}

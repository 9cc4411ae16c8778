import java.lang.management.ManagementFactory;
import java.lang.reflect.Array;
import java.lang.reflect.Field;
import java.lang.reflect.Modifier;
import java.nio.file.Files;
import java.nio.file.Path;
import java.util.ArrayDeque;
import java.util.Collections;
import java.util.Deque;
import java.util.IdentityHashMap;
import java.util.Set;
import java.util.regex.Matcher;
import java.util.regex.Pattern;

/**
 * Rule 12 of LANGUAGE.md, counted as it says: what the constructor makes, and beside it the dearest
 * call times 512, stay well within the room of a run, 600,000 objects with 7.3 million fields and elements.
 */
public final class RoomTest {
    private static final Path SOURCE = Path.of("src/main/java/BranchSums.java");
    private static final int CALLS = 512;
    private static final int KINDS = 51;
    private static final int FED = 12;
    private static final int LEAST_OBJECT = 16;
    private static final long MOST_OBJECTS = 600000 / 6;
    private static final long MOST_ELEMENTS = 7300000 / 6;
    private static final String[] TEXTS = {
        "0(1(2(3)4)5(6 7(8))23);0:5x9,63x9999;1:0x1,5x8;3:7x5;6:9x9,10x3,5x1;23:33x1",
        "0(1 2 3 4 5 6 7 8 9 10 11 12);1:5x2,63x9998,60x9,58x8,56x7,54x6;12:5x1",
        "0(1(2(3(4(5(6(7(8(9(10(11(12))))))))))));12:5x1;3:5x2,63x9998",
        "0(1 2 2)"
    };
    private static final com.sun.management.ThreadMXBean METER =
        (com.sun.management.ThreadMXBean) ManagementFactory.getThreadMXBean();

    private static long seed = 11;
    private static int dearest;
    private static long dearestBytes;

    private static int pick(int n) {
        seed = seed * 6364136223846793005L + 1442695040888963407L;
        return (int) Long.remainderUnsigned(seed >>> 33, n);
    }

    // ---- What a call could make, by the words that stand there

    /** The heads of all blocks that a place stands in; a method's is kept out of what may make something. */
    private static String makerAt(String code, int place) {
        Deque<String> heads = new ArrayDeque<>();
        StringBuilder head = new StringBuilder();
        for (int i = 0; i < place; i++) {
            char c = code.charAt(i);
            if (c == '{') heads.push(head.toString().trim().replaceAll("\\s+", " "));
            if (c == '}') heads.pop();
            if (c == '{' || c == '}' || c == ';') head.setLength(0);
            else head.append(c);
        }
        for (String h : heads) {
            if (h.matches("[\\w\\[\\]<>. ]+ \\w+\\(.*\\)") && !h.startsWith("public BranchSums(")) return h;
        }
        return "";
    }

    private static void onlyConstructorsMake() throws Exception {
        String code = Files.readString(SOURCE).replaceAll("(?s)/\\*.*?\\*/", " ").replaceAll("//[^\n]*", " ");
        code = code.replaceAll("\"[^\"\n]*\"", "\"\"").replaceAll("'[^'\n]+'", "' '");
        int found = 0;
        for (Matcher m = Pattern.compile("\\bnew\\b").matcher(code); m.find();) {
            found++;
            Check.due("rule 12: what is made in '" + makerAt(code, m.start()) + "'", makerAt(code, m.start()).length(), 0);
        }
        Check.due("rule 12: something is made", found > 0, true);
        String[] makers = {"\\bclone\\b", "copyOf", "toCharArray", "substring", "StringBuilder", "\\bString\\b", "List\\b", "Integer\\b(?!\\.)", "Iterator"};
        for (String maker : makers) {
            Check.due("rule 12: " + maker + " makes something", Pattern.compile(maker).matcher(code).find(), false);
        }
    }

    // ---- What stands there

    /** How many objects and arrays hang on one, and how many fields and elements these have. */
    private static long[] countOf(Object top) throws Exception {
        Set<Object> seen = Collections.newSetFromMap(new IdentityHashMap<>());
        Deque<Object> open = new ArrayDeque<>();
        seen.add(top);
        open.push(top);
        long[] count = new long[2];
        while (!open.isEmpty()) {
            Object o = open.pop();
            count[0]++;
            if (o.getClass().isArray()) count[1] += elements(o, seen, open);
            else count[1] += fields(o, seen, open);
        }
        return count;
    }

    private static int elements(Object array, Set<Object> seen, Deque<Object> open) {
        int n = Array.getLength(array);
        if (array instanceof Object[]) {
            for (Object o : (Object[]) array) if (o != null && seen.add(o)) open.push(o);
        }
        return n;
    }

    private static int fields(Object o, Set<Object> seen, Deque<Object> open) throws Exception {
        int n = 0;
        for (Field f : o.getClass().getDeclaredFields()) {
            if (Modifier.isStatic(f.getModifiers())) continue;
            n++;
            if (f.getType().isPrimitive()) continue;
            f.setAccessible(true);
            Object held = f.get(o);
            if (held != null && seen.add(held)) open.push(held);
        }
        return n;
    }

    // ---- What a call makes

    private static long act(BranchSums x, int kind, int a, int b, int c, int d) {
        switch (kind) {
            case 0: return x.add(a, c, d);
            case 1: return x.comes(a, b) ? 1 : 0;
            case 2: return x.goes(a);
            case 3: return x.move(a, b);
            case 4: return x.give(a, b, Math.min(c, d), Math.max(c, d));
            case 5: return x.roll(a);
            case 6: return x.recode(c, d);
            case 7: return x.limit(a, Math.min(c, d), Math.max(c, d), d % 3 == 0 ? -1 : d);
            case 8: return x.broken(a - 2, b % 3);
            case 9: return x.state(c * 77777);
            case 10: return x.feed(0x30202020, 0x20202020, 0x20202020, 0x20202020, 0x20202020);
            case 11: return x.end(c) ? 1 : 0;
            case 12: return x.text();
            case 13: return x.fault(a % 3);
            case 14: return x.undo();
            case 15: return x.image(c % 3 > 0) ? 1 : 0;
            default: return x.count(c % 12);
        }
    }

    private static long askUnit(BranchSums x, int kind, int a, int b, int c, int d) {
        switch (kind) {
            case 17: return x.unit(a, b % 13);
            case 18: return x.below(a, b);
            case 19: return x.above(a, b);
            case 20: return x.both(a, b);
            case 21: return x.of(a, c, d % 4);
            case 22: return x.ranked(a, c * d);
            case 23: return x.less(a, c);
            case 24: return x.leader(a, b, d % 3);
            case 25: return x.median(a);
            case 26: return x.heavy(a, c);
            case 27: return x.squares(a);
            case 28: return x.seats(a, c * 3, d);
            case 29: return x.percent(a, c);
            case 30: return x.quantile(a, c);
            case 31: return x.few(a, c);
            case 32: return x.run(a, b - 3, c % 4);
            case 33: return x.twin(a);
            default: return x.report(a);
        }
    }

    private static long ask(BranchSums x, int kind, int a, int b, int c, int d) {
        switch (kind) {
            case 35: return x.sign(c);
            case 36: return x.versions(a);
            case 37: return x.was(a, b, c);
            case 38: return x.grew(a, b, c % 6);
            case 39: return x.halves(a, b % 3);
            case 40: return x.chain(a, b, c - 1);
            case 41: return x.hops(a, b);
            case 42: return x.drawn(a, d, c);
            case 43: return x.unlike(a, b);
            case 44: return x.shared(a, b, c % 5);
            case 45: return x.leads(c);
            case 46: return x.where(c, d);
            case 47: return x.cost(a);
            case 48: return x.would(a, b, c % 5);
            case 49: return x.home(a);
            default: return x.look(c % 14);
        }
    }

    private static long call(BranchSums x, int kind, int a, int b, int c, int d) {
        if (kind < 17) return act(x, kind, a, b, c, d);
        return kind < 35 ? askUnit(x, kind, a, b, c, d) : ask(x, kind, a, b, c, d);
    }

    private static void measuredCall(BranchSums x, int kind) {
        int a = pick(4) > 0 ? pick(8) : pick(25);
        int b = pick(4) > 0 ? pick(8) : pick(25);
        int c = pick(65);
        int d = pick(65);
        long before = METER.getCurrentThreadAllocatedBytes();
        call(x, kind, a, b, c, d);
        long bytes = METER.getCurrentThreadAllocatedBytes() - before;
        if (bytes > dearestBytes) {
            dearest = kind;
            dearestBytes = bytes;
        }
    }

    private static void measuredRun(String text) {
        BranchSums x = new BranchSums();
        Check.tape(x, text);
        for (int i = 0; i < CALLS - FED; i++) {
            // Every call once as the first, the dearest ones often.
            measuredCall(x, i == 0 ? 12 : i <= KINDS ? i % KINDS : pick(3) == 0 ? pick(17) : pick(KINDS));
        }
    }

    public static void main(String[] args) throws Exception {
        onlyConstructorsMake();
        long[] made = countOf(new BranchSums());
        for (String text : TEXTS) measuredRun(text);
        dearestBytes = 0;
        for (int i = 0; i < 400; i++) measuredRun(TEXTS[i % TEXTS.length]);
        long objects = made[0] + CALLS * ((dearestBytes + LEAST_OBJECT - 1) / LEAST_OBJECT);
        long elements = made[1] + CALLS * dearestBytes;
        String words = "rule 12: the constructor makes " + made[0] + " with " + made[1] + ", the dearest call (" + dearest
            + ") " + dearestBytes + " bytes: ";
        Check.due(words + objects + " objects", objects < MOST_OBJECTS, true);
        Check.due(words + elements + " elements", elements < MOST_ELEMENTS, true);
        BranchSums x = new BranchSums();
        Check.tape(x, TEXTS[0]);
        for (int i = 0; i < CALLS - FED; i++) measuredCall(x, i == 0 ? 12 : pick(KINDS));
        long[] then = countOf(x);
        Check.due("rule 12: objects kept behind a run", then[0], made[0]);
        Check.due("rule 12: elements kept behind a run", then[1], made[1]);
        System.out.println(words + "as counted");
        Check.close("RoomTest");
    }
}

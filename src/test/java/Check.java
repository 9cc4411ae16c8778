/** What the tests of the promises have in common: due answers, and objects made from texts. */
final class Check {
    private static int right = 0;
    private static int wrong = 0;

    private Check() {
    }

    static void due(String call, long got, long want) {
        if (got == want) {
            right++;
        } else {
            wrong++;
            System.out.println(call + " answered " + got + ", due is " + want);
        }
    }

    static void due(String call, boolean got, boolean want) {
        due(call, got ? 1 : 0, want ? 1 : 0);
    }

    static void close(String test) {
        System.out.println(test + ": " + right + " answers as due, " + wrong + " not");
        if (wrong != 0) System.exit(1);
    }

    /** Feeds a text so that THE TAPE holds it alone, each sign a byte. */
    static void tape(BranchSums x, String text) {
        x.end(0);
        for (int i = 0; i < text.length(); i += 20) {
            int[] n = new int[5];
            for (int k = 0; k < 20 && i + k < text.length(); k++) {
                n[k / 4] |= (text.charAt(i + k) & 255) << (24 - k % 4 * 8);
            }
            x.feed(n[0], n[1], n[2], n[3], n[4]);
        }
        x.end(text.length());
    }

    static int read(BranchSums x, String text) {
        tape(x, text);
        return x.text();
    }

    /** An object as a text tells it, all of it rolled up. */
    static BranchSums rolled(String text) {
        BranchSums x = new BranchSums();
        if (read(x, text) < 1) due("text " + text, 0, 1);
        x.roll(0);
        return x;
    }

    static String report(BranchSums x, int unit) {
        StringBuilder s = new StringBuilder();
        int n = x.report(unit);
        for (int i = 0; i < n; i++) s.append((char) x.sign(i));
        return s.toString();
    }

    static void report(BranchSums x, int unit, String want) {
        String got = report(x, unit);
        if (!got.equals(want)) System.out.println("report(" + unit + ") is '" + got + "', due is '" + want + "'");
        due("report(" + unit + ") as due", got.equals(want), true);
    }
}

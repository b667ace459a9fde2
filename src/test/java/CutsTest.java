/** Promises 12 to 16: cuts. */
public final class CutsTest {
    private static final int N = SlowWatch.NONE;

    public static void main(String[] args) {
        price();
        cuts();
        fewestThenEarliest();
        aheadOfMeasuredAlone();
        byRanksAlone();
        neverOutOfDate();
        refusals();
        cut();
        middle();
        size();
        Check.end();
    }

    private static void price() {
        SlowWatch x = new SlowWatch();
        Check.due(12, "price(0)", x.price(0), 20);
        Check.due(12, "price(1000)", x.price(1000), 0);
        for (int p : new int[] {-1, 1001, Integer.MIN_VALUE, Integer.MAX_VALUE}) {
            Check.due(12, "price(" + p + ")", x.price(p), SlowWatch.BAD);
        }
        Check.due(12, "price(7)", x.price(7), 1000);
        Check.due(12, "price(7)", x.price(7), 7);
    }

    private static void cutsAre(SlowWatch x, String of, int sum, int... builds) {
        Check.due(13, "cuts(0, 0) of " + of, x.cuts(0, 0), builds.length);
        Check.due(13, "asked() of " + of, x.asked(), sum);
        for (int i = 0; i < builds.length; i++) {
            Check.due(14, "cut(0, 0, " + i + ") of " + of, x.cut(0, 0, i), builds[i]);
        }
        Check.due(14, "the cut behind the last one of " + of, x.cut(0, 0, builds.length), N);
    }

    private static void cuts() {
        SlowWatch x = Check.withRow(8, 0, 1, 1, 1, 1, 9, 9, 9, 9);
        cutsAre(x, "two levels", 20, 4);
        // RANKS 4 and 12: the MIDDLE is 12, four are 8 away
        x.price(31);
        cutsAre(x, "two levels, just worth it", 31, 4);
        x.price(32);
        cutsAre(x, "two levels, as dear", 32);
        x.price(0);
        cutsAre(x, "two levels for nothing", 0, 4);
        SlowWatch y = Check.withRow(0, 0, 1, 1, 1, 1, 9, 9, 9, 9);
        cutsAre(y, "no BUILDS", 0);
        y.builds(1);
        cutsAre(y, "one BUILD", 0);
        y.builds(5);
        y.price(3);
        cutsAre(y, "five BUILDS", 3, 4);
        SlowWatch z = Check.withRow(9, 0, 1, 1, 1, 7, 7, 7, 1, 1, 1);
        z.price(2);
        cutsAre(z, "up and down", 4, 3, 6);
    }

    private static void fewestThenEarliest() {
        SlowWatch x = Check.withRow(5, 0, 1, 1, 2, 3, 3);
        // RANKS 2 2 5 8 8: 12 without a cut, 3 and a price with one ahead of 2 or of 3, two prices with both
        x.price(4);
        cutsAre(x, "earliest of two", 7, 2);
        x.price(3);
        cutsAre(x, "fewest: one as cheap as two", 6, 2);
        x.price(2);
        cutsAre(x, "two", 4, 2, 3);
        x.price(8);
        cutsAre(x, "one", 11, 2);
        x.price(9);
        cutsAre(x, "fewest: none as cheap as one", 12);
        SlowWatch y = Check.withRow(9, 0, 1, 1, 2, 3, 3, 3, 4, 5, 5);
        // RANKS 2 2 5 9 9 9 13 16 16: 2 goes with 1 or with 3 for less or more; 4 with 5
        y.price(5);
        cutsAre(y, "two places to choose at", 16, 3, 6);
        SlowWatch z = Check.withRow(8, 0, 1, 1, 2, 3, 3, 2, 1, 1);
        // RANKS 4 4 10 14 14 10 4 4: both of the 2s may go with the 1s or the 3s; 4 away is nearer
        z.price(7);
        cutsAre(z, "up and down with ways between", 22, 2, 6);
    }

    private static void aheadOfMeasuredAlone() {
        SlowWatch x = Check.withRow(10, 0, N, 5, 5, N, N, 80, 80, N, 80, N);
        x.price(1);
        cutsAre(x, "gaps", 1, 5);
        SlowWatch y = Check.withRow(40, 0, N, N, N, 5);
        y.price(0);
        cutsAre(y, "one measurement", 0);
        y.lay(0, 0, 39, 6);
        cutsAre(y, "the last BUILD", 0, 39);
        y.lay(0, 0, 3, N);
        y.lay(0, 0, 0, 5);
        y.lay(0, 0, 1, 6);
        y.lay(0, 0, 39, N);
        cutsAre(y, "the first BUILD that may be", 0, 1);
    }

    private static void byRanksAlone() {
        for (int p = 0; p < 60; p++) {
            SlowWatch x = Check.withRow(10, 0, 3, 4, 5, 3, 9, 8, 9, 2, 3, 4);
            SlowWatch y = Check.withRow(10, 0, 30, 400, 5000, 30, 1000000, 80000, 1000000, 0, 30, 400);
            x.price(p);
            y.price(p);
            Check.due(13, "cuts of like RANKS, price " + p, y.cuts(0, 0), x.cuts(0, 0));
            Check.due(13, "asked of like RANKS, price " + p, y.asked(), x.asked());
            for (int i = 0; i < 10; i++) {
                Check.due(14, "cut of like RANKS, price " + p, y.cut(0, 0, i), x.cut(0, 0, i));
            }
        }
    }

    /** Whatever changes a ROW changes its cuts at once. */
    private static void neverOutOfDate() {
        SlowWatch x = Check.withRow(4, 0, 1, 1, 9, 9, 1, 1);
        x.price(1);
        cutsAre(x, "four", 1, 2);
        x.builds(6);
        cutsAre(x, "BUILDS more", 2, 2, 4);
        x.price(1000);
        cutsAre(x, "another price", 12);
        x.price(1);
        x.lay(0, 0, 4, 9);
        x.lay(0, 0, 5, 9);
        cutsAre(x, "other measurements", 1, 2);
        x.row(0, 1);
        Check.layAll(x, 0, 1, 3, 8, 8, 8, 8, 8);
        x.cuts(0, 1);
        x.copy(0, 1, 0, 0, 0, 6);
        cutsAre(x, "copied ones", 1, 1);
        x.copy(0, 0, 0, 0, 2, 2);
        cutsAre(x, "its own copied", 3, 1, 2, 3);
        x.row(0, 0);
        cutsAre(x, "none", 0);
        Check.layAll(x, 0, 0, 1, 1, 9, 9);
        cutsAre(x, "laid again", 1, 2);
        x.tear(0, 0);
        x.row(0, 0);
        cutsAre(x, "torn, and there again", 0);
    }

    private static void refusals() {
        SlowWatch x = Check.withRow(4, 0, 1, 1, 9, 9);
        x.price(1);
        x.cuts(0, 0);
        int[][] bad = {{1, 0}, {-1, 0}, {0, 4}, {0, -1}};
        for (int[] b : bad) {
            Check.due(13, "cuts, bad", x.cuts(b[0], b[1]), SlowWatch.BAD);
            Check.due(14, "cut, bad", x.cut(b[0], b[1], 0), SlowWatch.BAD);
            Check.due(15, "middle, bad", x.middle(b[0], b[1], 0), SlowWatch.BAD);
            Check.due(16, "size, bad", x.size(b[0], b[1], 0), SlowWatch.BAD);
        }
        Check.due(13, "finding() after BAD", x.finding(), 0);
        Check.due(13, "cuts, missing", x.cuts(0, 1), SlowWatch.FINDING);
        Check.due(13, "finding()", x.finding(), 1);
        Check.due(14, "cut, missing", x.cut(0, 1, -1), SlowWatch.FINDING);
        Check.due(15, "middle, missing", x.middle(0, 1, -1), SlowWatch.FINDING);
        Check.due(16, "size, missing", x.size(0, 1, -1), SlowWatch.FINDING);
        Check.due(13, "findings(1)", x.findings(1), 4);
        Check.due(13, "asked() after refusals", x.asked(), 1);
    }

    private static void cut() {
        SlowWatch x = Check.withRow(4, 0, 1, 1, 9, 9);
        x.price(1);
        for (int i : new int[] {-1, 1, 2, 39, 40, Integer.MIN_VALUE, Integer.MAX_VALUE}) {
            Check.due(14, "cut(0, 0, " + i + ")", x.cut(0, 0, i), N);
        }
        Check.due(14, "cut(0, 0, 0)", x.cut(0, 0, 0), 2);
        Check.due(14, "asked(): cut tells nothing there", x.asked(), 0);
    }

    private static void middle() {
        SlowWatch x = Check.withRow(4, 0, 4, 2, 1, 3, 7);
        x.price(1000);
        Check.due(15, "middle of four", x.middle(0, 0, 0), 3);
        x.builds(5);
        Check.due(15, "middle of five", x.middle(0, 0, 0), 3);
        x.builds(6);
        x.lay(0, 0, 5, 9);
        Check.due(15, "middle of six", x.middle(0, 0, 0), 4);
        x.price(0);
        for (int i = 0; i < 6; i++) {
            Check.due(15, "middle of one", x.middle(0, 0, i), x.at(0, 0, i));
        }
        for (int i : new int[] {-1, 6, 40, 41, Integer.MIN_VALUE, Integer.MAX_VALUE}) {
            Check.due(15, "middle(0, 0, " + i + ")", x.middle(0, 0, i), N);
        }
        x.row(0, 0);
        Check.due(15, "middle of none", x.middle(0, 0, 0), N);
        x.lay(0, 0, 0, 0);
        Check.due(15, "middle of a single 0", x.middle(0, 0, 0), 0);
    }

    private static void size() {
        SlowWatch x = Check.withRow(6, 0, 10, 10, 1000000, 1000000, 0, 0);
        x.price(1);
        Check.due(16, "size(0, 0, 0)", x.size(0, 0, 0), 1);
        Check.due(16, "asked()", x.asked(), 999990);
        Check.due(16, "size(0, 0, 1)", x.size(0, 0, 1), 1);
        Check.due(16, "asked()", x.asked(), -1000000);
        for (int i : new int[] {-1, 2, 39, 40, Integer.MIN_VALUE, Integer.MAX_VALUE}) {
            Check.due(16, "size(0, 0, " + i + ")", x.size(0, 0, i), N);
        }
        Check.due(16, "asked(): none such tells nothing", x.asked(), -1000000);
    }
}

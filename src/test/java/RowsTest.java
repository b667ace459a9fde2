/** Promises 1 to 11: builds, tests, rows. */
public final class RowsTest {
    private static final int N = SlowWatch.NONE;
    private static final int LEAST = Integer.MIN_VALUE;
    private static final int MOST = Integer.MAX_VALUE;

    public static void main(String[] args) {
        newObject();
        builds();
        test();
        is();
        row();
        lay();
        at();
        tear();
        copy();
        copyOntoItself();
        rank();
        mean();
        Check.end();
    }

    private static void newObject() {
        SlowWatch x = new SlowWatch();
        for (int what = 0; what < 4; what++) {
            Check.due(1, "count(" + what + ") of a new object", x.count(what), 0);
        }
        Check.due(1, "row(0, 0) without a TEST", x.row(0, 0), SlowWatch.BAD);
        Check.due(1, "halve(0, 1, 1) without BUILDS", x.halve(0, 1, 1), SlowWatch.BAD);
        Check.due(1, "price(20)", x.price(20), 20);
        Check.due(1, "reach(1)", x.reach(1), 1);
        Check.due(1, "cried(0)", x.cried(0), N);
        SlowWatch y = new SlowWatch();
        x.builds(3);
        Check.due(1, "another object's count(0)", y.count(0), 0);
    }

    private static void builds() {
        SlowWatch x = new SlowWatch();
        Check.due(2, "builds(0)", x.builds(0), 0);
        Check.due(2, "builds(-1)", x.builds(-1), SlowWatch.BAD);
        Check.due(2, "builds(41)", x.builds(41), SlowWatch.BAD);
        Check.due(2, "builds(least)", x.builds(LEAST), SlowWatch.BAD);
        Check.due(2, "builds(most)", x.builds(MOST), SlowWatch.BAD);
        Check.due(2, "count(0)", x.count(0), 0);
        Check.due(2, "builds(7)", x.builds(7), 7);
        Check.due(2, "builds(7) again", x.builds(7), 7);
        Check.due(2, "builds(6)", x.builds(6), SlowWatch.BAD);
        Check.due(2, "count(0)", x.count(0), 7);
        Check.due(2, "builds(40)", x.builds(40), 40);
        Check.due(2, "finding()", x.finding(), 0);
    }

    private static void test() {
        SlowWatch x = new SlowWatch();
        Check.due(3, "test(-1)", x.test(-1), SlowWatch.BAD);
        Check.due(3, "test(3)", x.test(3), SlowWatch.BAD);
        for (int t = 0; t < 8; t++) {
            Check.due(3, "test " + t, x.test(t % 3), t);
            for (int m = 0; m < 4; m++) {
                Check.due(3, "tear of a new TEST's ROW", x.tear(t, m), SlowWatch.FINDING);
            }
        }
        Check.due(3, "test(0), the ninth", x.test(0), SlowWatch.FULL);
        Check.due(3, "test(3), the ninth", x.test(3), SlowWatch.BAD);
        Check.due(3, "count(1)", x.count(1), 8);
        Check.due(3, "is(8, 0)", x.is(8, 0), SlowWatch.BAD);
    }

    private static void is() {
        SlowWatch x = new SlowWatch();
        Check.due(4, "is(0, 0) without a TEST", x.is(0, 0), SlowWatch.BAD);
        int[][] want = {{1, 0, 0}, {1, 1, 0}, {1, 0, 1}};
        for (int kind = 0; kind < 3; kind++) {
            x.test(kind);
            for (int k = 0; k < 3; k++) {
                Check.due(4, "KIND " + kind + " is(" + kind + ", " + k + ")", x.is(kind, k), want[kind][k]);
            }
        }
        Check.due(4, "is(0, -1)", x.is(0, -1), SlowWatch.BAD);
        Check.due(4, "is(0, 3)", x.is(0, 3), SlowWatch.BAD);
        Check.due(4, "is(-1, 0)", x.is(-1, 0), SlowWatch.BAD);
        Check.due(4, "is(3, 0)", x.is(3, 0), SlowWatch.BAD);
    }

    private static void row() {
        SlowWatch x = new SlowWatch();
        x.test(0);
        Check.due(5, "row(0, -1)", x.row(0, -1), SlowWatch.BAD);
        Check.due(5, "row(0, 4)", x.row(0, 4), SlowWatch.BAD);
        Check.due(5, "row(1, 0)", x.row(1, 0), SlowWatch.BAD);
        Check.due(5, "row(-1, 0)", x.row(-1, 0), SlowWatch.BAD);
        Check.due(5, "row(0, 3)", x.row(0, 3), 0);
        Check.due(5, "count(2)", x.count(2), 1);
        x.lay(0, 3, 5, 77);
        Check.due(5, "row(0, 3) again", x.row(0, 3), 1);
        Check.due(5, "at(0, 3, 5): no measurements again", x.at(0, 3, 5), N);
        Check.due(5, "count(2)", x.count(2), 1);
    }

    private static void lay() {
        SlowWatch x = new SlowWatch();
        x.test(0);
        Check.due(6, "lay on a missing ROW", x.lay(0, 0, 0, 5), SlowWatch.FINDING);
        Check.due(6, "finding()", x.finding(), 1);
        Check.due(6, "lay on a missing ROW, beyond", x.lay(0, 0, 40, 5), SlowWatch.FINDING);
        Check.due(6, "finding(): NOTHING is first", x.finding(), 1);
        Check.due(6, "lay on a missing ROW, v bad", x.lay(0, 0, 0, -1), SlowWatch.BAD);
        x.row(0, 0);
        Check.due(6, "lay(0, 0, 39, 0)", x.lay(0, 0, 39, 0), N);
        Check.due(6, "lay(0, 0, 39, 1000000)", x.lay(0, 0, 39, 1000000), 0);
        Check.due(6, "lay(0, 0, 39, NONE)", x.lay(0, 0, 39, N), 1000000);
        Check.due(6, "lay(0, 0, 39, 4)", x.lay(0, 0, 39, 4), N);
        Check.due(6, "lay(0, 0, 40, 4)", x.lay(0, 0, 40, 4), SlowWatch.FINDING);
        Check.due(6, "finding()", x.finding(), 2);
        Check.due(6, "lay(0, 0, -1, 4)", x.lay(0, 0, -1, 4), SlowWatch.FINDING);
        Check.due(6, "lay(0, 0, least, 4)", x.lay(0, 0, LEAST, 4), SlowWatch.FINDING);
        Check.due(6, "findings(2)", x.findings(2), 3);
        for (int v : new int[] {-1, -2, -8, -10, 1000001, LEAST, MOST}) {
            Check.due(6, "lay(0, 0, 40, " + v + "): BAD is first", x.lay(0, 0, 40, v), SlowWatch.BAD);
        }
        Check.due(6, "lay(1, 0, 0, 1)", x.lay(1, 0, 0, 1), SlowWatch.BAD);
        Check.due(6, "lay(0, 4, 0, 1)", x.lay(0, 4, 0, 1), SlowWatch.BAD);
        Check.due(6, "lay(0, -1, 0, 1)", x.lay(0, -1, 0, 1), SlowWatch.BAD);
        Check.due(6, "at(0, 0, 39)", x.at(0, 0, 39), 4);
        Check.due(6, "findings(2)", x.findings(2), 3);
    }

    private static void at() {
        SlowWatch x = Check.withRow(2, 0, 8, 0);
        x.lay(0, 0, 20, 6);
        Check.due(7, "at(0, 0, 0)", x.at(0, 0, 0), 8);
        Check.due(7, "at(0, 0, 1)", x.at(0, 0, 1), 0);
        Check.due(7, "at(0, 0, 2)", x.at(0, 0, 2), N);
        Check.due(7, "at(0, 0, 20): a BUILD that is not there yet", x.at(0, 0, 20), 6);
        Check.due(7, "at(0, 0, 39)", x.at(0, 0, 39), N);
        Check.due(7, "at(0, 0, 40)", x.at(0, 0, 40), SlowWatch.FINDING);
        Check.due(7, "finding()", x.finding(), 2);
        Check.due(7, "at(0, 1, 40)", x.at(0, 1, 40), SlowWatch.FINDING);
        Check.due(7, "finding()", x.finding(), 1);
        Check.due(7, "at(0, 0, -1)", x.at(0, 0, -1), SlowWatch.FINDING);
        Check.due(7, "finding()", x.finding(), 2);
        Check.due(7, "at(0, 4, -1)", x.at(0, 4, -1), SlowWatch.BAD);
        Check.due(7, "at(1, 0, 0)", x.at(1, 0, 0), SlowWatch.BAD);
    }

    private static void tear() {
        SlowWatch x = Check.withRow(2, 0, 8, 9);
        x.row(0, 1);
        Check.due(8, "tear(0, 0)", x.tear(0, 0), 1);
        Check.due(8, "count(2)", x.count(2), 1);
        Check.due(8, "at(0, 0, 0)", x.at(0, 0, 0), SlowWatch.FINDING);
        Check.due(8, "tear(0, 0) again", x.tear(0, 0), SlowWatch.FINDING);
        Check.due(8, "finding()", x.finding(), 1);
        Check.due(8, "tear(0, 4)", x.tear(0, 4), SlowWatch.BAD);
        Check.due(8, "tear(-1, 0)", x.tear(-1, 0), SlowWatch.BAD);
        Check.due(8, "row(0, 0) after it", x.row(0, 0), 0);
        Check.due(8, "at(0, 0, 0): none is left", x.at(0, 0, 0), N);
    }

    private static void copy() {
        SlowWatch x = Check.withRow(4, 0, 1, 2, 3, 4);
        Check.due(9, "copy to a missing ROW", x.copy(0, 0, 0, 1, 0, 1), SlowWatch.FINDING);
        Check.due(9, "finding()", x.finding(), 1);
        Check.due(9, "copy from a missing ROW", x.copy(0, 1, 50, 0, 0, 1), SlowWatch.FINDING);
        Check.due(9, "finding(): NOTHING is ahead of BEYOND", x.finding(), 1);
        Check.due(9, "copy of fewer than none, ROW missing", x.copy(0, 1, 0, 0, 0, -1), SlowWatch.FINDING);
        Check.due(9, "finding(): SIZE is ahead of NOTHING", x.finding(), 5);
        Check.due(9, "copy to no MACHINE", x.copy(0, 0, 0, 4, 0, -1), SlowWatch.BAD);
        Check.due(9, "copy from no MACHINE", x.copy(0, -1, 0, 0, 0, 1), SlowWatch.BAD);
        Check.due(9, "copy of no TEST", x.copy(1, 0, 0, 0, 0, 1), SlowWatch.BAD);
        x.row(0, 1);
        x.lay(0, 1, 11, 60);
        x.lay(0, 1, 13, 61);
        Check.due(9, "copy(0, 0, 1, 1, 10, 4)", x.copy(0, 0, 1, 1, 10, 4), 1);
        int[] want = {N, 2, 3, 4, N, N};
        for (int b = 9; b < 15; b++) {
            Check.due(9, "at(0, 1, " + b + ") after it", x.at(0, 1, b), want[b - 9]);
        }
        Check.due(9, "copy of none at the end", x.copy(0, 0, 40, 1, 40, 0), 1);
        int[][] beyond = {{41, 0, 0}, {0, 41, 0}, {-1, 0, 1}, {0, -1, 1}, {-1, 0, 0}, {0, -1, 0}, {1, 0, 40}, {0, 1, 40},
            {0, 0, 41}, {39, 0, 2}, {1, 0, MOST}, {0, 1, MOST}, {MOST, 0, MOST}, {MOST, MOST, 1}, {LEAST, 0, 1}};
        for (int[] b : beyond) {
            String call = "copy(0, 0, " + b[0] + ", 1, " + b[1] + ", " + b[2] + ")";
            x.at(1, 0, 0);
            Check.due(9, call, x.copy(0, 0, b[0], 1, b[1], b[2]), SlowWatch.FINDING);
            Check.due(9, call + ": finding()", x.finding(), 2);
        }
        Check.due(9, "findings(2)", x.findings(2), beyond.length);
        Check.due(9, "copy of least many", x.copy(0, 0, 0, 1, 0, LEAST), SlowWatch.FINDING);
        Check.due(9, "finding()", x.finding(), 5);
        Check.due(9, "copy of all", x.copy(0, 0, 0, 1, 0, 40), 1);
        Check.due(9, "at(0, 1, 11): none came, too", x.at(0, 1, 11), N);
    }

    private static void copyOntoItself() {
        SlowWatch x = Check.withRow(6, 0, 1, 2, 3, 4, 5, 6);
        Check.due(9, "copy onto itself, later", x.copy(0, 0, 0, 0, 2, 4), 1);
        int[] later = {1, 2, 1, 2, 3, 4};
        for (int b = 0; b < 6; b++) {
            Check.due(9, "at(0, 0, " + b + ") after it", x.at(0, 0, b), later[b]);
        }
        Check.due(9, "copy onto itself, earlier", x.copy(0, 0, 2, 0, 1, 4), 1);
        int[] earlier = {1, 1, 2, 3, 4, 4};
        for (int b = 0; b < 6; b++) {
            Check.due(9, "at(0, 0, " + b + ") after that", x.at(0, 0, b), earlier[b]);
        }
    }

    private static void rank() {
        SlowWatch x = Check.withRow(6, 0, 5, 9, N, 5, 0, 9, 1);
        int[] want = {2 * 1 + 2, 2 * 3 + 2, 0, 2 * 1 + 2, 1, 2 * 3 + 2};
        for (int b = 0; b < 6; b++) {
            if (b != 2) {
                Check.due(10, "rank(0, 0, " + b + ")", x.rank(0, 0, b), want[b]);
            }
        }
        Check.due(10, "rank of no measurement", x.rank(0, 0, 2), SlowWatch.FINDING);
        Check.due(10, "finding()", x.finding(), 4);
        Check.due(10, "rank of no BUILD", x.rank(0, 0, 6), SlowWatch.FINDING);
        Check.due(10, "finding()", x.finding(), 2);
        Check.due(10, "rank(0, 0, -1)", x.rank(0, 0, -1), SlowWatch.FINDING);
        Check.due(10, "rank(0, 0, most)", x.rank(0, 0, MOST), SlowWatch.FINDING);
        Check.due(10, "findings(2)", x.findings(2), 3);
        Check.due(10, "rank on a missing ROW", x.rank(0, 1, -1), SlowWatch.FINDING);
        Check.due(10, "finding()", x.finding(), 1);
        Check.due(10, "rank(0, 4, 0)", x.rank(0, 4, 0), SlowWatch.BAD);
        x.builds(7);
        Check.due(10, "rank(0, 0, 6), now there", x.rank(0, 0, 6), 3);
        Check.due(10, "rank(0, 0, 0), one more is less", x.rank(0, 0, 0), 6);
    }

    private static void mean() {
        SlowWatch x = Check.withRow(3, 0, 5, N, 6, 100);
        Check.due(11, "mean(0, 0), cut", x.mean(0, 0), 5);
        x.builds(4);
        Check.due(11, "mean(0, 0) with one more", x.mean(0, 0), 37);
        Check.due(11, "mean on a missing ROW", x.mean(0, 1), SlowWatch.FINDING);
        Check.due(11, "finding()", x.finding(), 1);
        x.row(0, 1);
        Check.due(11, "mean of none", x.mean(0, 1), SlowWatch.FINDING);
        Check.due(11, "finding()", x.finding(), 4);
        x.lay(0, 1, 4, 3);
        Check.due(11, "mean of one that does not count", x.mean(0, 1), SlowWatch.FINDING);
        Check.due(11, "mean(0, -1)", x.mean(0, -1), SlowWatch.BAD);
        x.builds(40);
        x.row(0, 2);
        for (int b = 0; b < 40; b++) {
            x.lay(0, 2, b, 1000000);
        }
        Check.due(11, "mean of the greatest", x.mean(0, 2), 1000000);
    }
}

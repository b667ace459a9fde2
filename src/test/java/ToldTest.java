/** Promises 28 to 34: what is told. */
public final class ToldTest {
    private static final int N = SlowWatch.NONE;

    public static void main(String[] args) {
        upperAndLower();
        asked();
        count();
        finding();
        digestOfNew();
        digest();
        refusedChangesNothing();
        Check.end();
    }

    private static void upperAndLower() {
        SlowWatch x = Check.withRow(4, 0, 1, 1, 9, 9);
        Check.due(28, "upper() before", x.upper(), 0);
        Check.due(29, "lower() before", x.lower(), 1);
        x.odds(0, 0, 0);
        Check.due(28, "upper() after NONE", x.upper(), 0);
        Check.due(29, "lower() after NONE", x.lower(), 1);
        x.price(1);
        x.cry(0, 1, 1);
        Check.due(28, "upper() after cry", x.upper(), 0);
        Check.due(29, "lower() after cry", x.lower(), 1);
        x.odds(0, 0, 0);
        Check.due(28, "upper()", x.upper(), 1);
        Check.due(29, "lower()", x.lower(), 6);
        x.odds(0, 1, 0);
        x.odds(0, 4, 0);
        x.odds(0, 0, 1);
        Check.due(28, "upper() after refusals", x.upper(), 1);
        Check.due(29, "lower() after refusals", x.lower(), 6);
    }

    private static void asked() {
        SlowWatch x = Check.withRow(4, 0, 1, 1, 9, 9);
        Check.due(30, "asked() before", x.asked(), 0);
        x.price(1);
        x.cut(0, 0, 0);
        x.middle(0, 0, 1);
        x.own(0, 0, 0);
        x.odds(0, 0, 0);
        Check.due(30, "asked() after others", x.asked(), 0);
        x.size(0, 0, 0);
        Check.due(30, "asked() after size", x.asked(), 8);
        x.size(0, 0, 1);
        x.size(0, 1, 0);
        x.size(1, 0, 0);
        x.cuts(0, 1);
        x.cuts(1, 0);
        x.cry(9, 1, 1);
        x.cry(-1, 1, 1);
        Check.due(30, "asked() after NONE, refusals, and 0", x.asked(), 8);
        x.cry(8, 1, 1);
        Check.due(30, "asked() after cry", x.asked(), 2);
        x.cuts(0, 0);
        Check.due(30, "asked() after cuts", x.asked(), 1);
        x.row(0, 1);
        x.cuts(0, 1);
        Check.due(30, "asked() after cuts of none", x.asked(), 0);
    }

    private static void count() {
        SlowWatch x = new SlowWatch();
        for (int what : new int[] {-1, 4, Integer.MIN_VALUE, Integer.MAX_VALUE}) {
            Check.due(31, "count(" + what + ")", x.count(what), SlowWatch.BAD);
        }
        x.builds(12);
        x.test(0);
        x.test(2);
        x.row(0, 3);
        x.row(1, 0);
        x.row(1, 1);
        x.row(1, 1);
        Check.due(31, "count(0)", x.count(0), 12);
        Check.due(31, "count(1)", x.count(1), 2);
        Check.due(31, "count(2)", x.count(2), 3);
        x.tear(1, 0);
        Check.due(31, "count(2)", x.count(2), 2);
        x.price(0);
        x.lay(0, 3, 0, 1);
        x.lay(0, 3, 5, 2);
        x.cry(0, 1, 1);
        x.cry(0, 1, 1);
        Check.due(31, "count(3)", x.count(3), 1);
        x.tear(0, 3);
        Check.due(31, "count(3): ever", x.count(3), 1);
    }

    private static void finding() {
        SlowWatch x = Check.withRow(3, 0, 4);
        Check.due(32, "finding() before", x.finding(), 0);
        for (int f = 1; f <= 5; f++) {
            Check.due(33, "findings(" + f + ") before", x.findings(f), 0);
        }
        for (int f : new int[] {0, -1, 6, Integer.MIN_VALUE, Integer.MAX_VALUE}) {
            Check.due(33, "findings(" + f + ")", x.findings(f), SlowWatch.BAD);
        }
        x.mean(0, 1);
        Check.due(32, "finding() NOTHING", x.finding(), 1);
        x.at(0, 0, 40);
        Check.due(32, "finding() BEYOND", x.finding(), 2);
        x.undone(0, 0, 0);
        Check.due(32, "finding() UNLIKE", x.finding(), 3);
        x.rank(0, 0, 1);
        Check.due(32, "finding() NOUGHT", x.finding(), 4);
        x.copy(0, 0, 0, 0, 0, -5);
        Check.due(32, "finding() SIZE", x.finding(), 5);
        x.mean(0, 9);
        x.mean(0, 0);
        x.rerun(true);
        Check.due(32, "finding() is the latest one", x.finding(), 5);
        x.copy(0, 0, 0, 0, 0, -5);
        int[] want = {1, 1, 1, 1, 2};
        for (int f = 1; f <= 5; f++) {
            Check.due(33, "findings(" + f + ")", x.findings(f), want[f - 1]);
        }
    }

    private static long join(int... values) {
        long h = 17;
        for (int v : values) {
            h = 31 * h + v;
        }
        return h;
    }

    private static void digestOfNew() {
        SlowWatch x = new SlowWatch();
        Check.due(34, "digest() of a new object", x.digest(), join(0, 20, 1, 0, -4, -4, 0));
        x.builds(5);
        x.price(7);
        x.reach(0);
        x.test(2);
        Check.due(34, "digest() with a TEST", x.digest(), join(5, 7, 0, 2, -1, -1, -1, -1, 0, -4, -4, 0));
        x.halve(0, 4, 1);
        Check.due(34, "digest() in a halving", x.digest(), join(5, 7, 0, 2, -1, -1, -1, -1, 0, 2, N, 0));
        x.rerun(true);
        x.rerun(false);
        Check.due(34, "digest() after it", x.digest(), join(5, 7, 0, 2, -1, -1, -1, -1, 0, N, 2, 2));
    }

    private static void digest() {
        SlowWatch x = Check.withRow(2, 1, 3, 8);
        x.lay(0, 0, 39, 1000000);
        x.test(0);
        x.row(1, 2);
        x.price(0);
        x.cry(0, 1, 1);
        int[] all = new int[120];
        int at = 0;
        for (int v : new int[] {2, 0, 1, 1, 3, 8}) {
            all[at++] = v;
        }
        for (int b = 2; b < 39; b++) {
            all[at++] = N;
        }
        for (int v : new int[] {1000000, -1, -1, -1, 0, -1, -1}) {
            all[at++] = v;
        }
        for (int b = 0; b < 40; b++) {
            all[at++] = N;
        }
        for (int v : new int[] {-1, 1, -4, -4, 0}) {
            all[at++] = v;
        }
        Check.due(34, "how many there are", at, 3 + 1 + 40 + 3 + 1 + 40 + 3 + 4);
        Check.due(34, "digest()", x.digest(), join(java.util.Arrays.copyOf(all, at)));
    }

    private static void refusedChangesNothing() {
        SlowWatch x = Check.withRow(6, 0, 1, 1, 9, 9, 2);
        x.halve(0, 5, 3);
        x.rerun(true);
        x.price(1);
        x.size(0, 0, 0);
        x.odds(0, 0, 0);
        long digest = x.digest();
        long asked = x.asked();
        x.builds(5);
        x.test(9);
        x.row(0, 4);
        x.lay(0, 0, 40, 1);
        x.lay(0, 0, 0, -1);
        x.lay(0, 1, 0, 1);
        x.tear(0, 1);
        x.copy(0, 0, 0, 0, 1, 40);
        x.copy(0, 0, 0, 1, 1, 1);
        x.copy(0, 0, 0, 0, 1, -1);
        x.price(1001);
        x.reach(6);
        x.cuts(0, 1);
        x.size(0, 1, 0);
        x.undone(0, 0, 0);
        x.cry(-1, 1, 1);
        x.halve(0, 6, 1);
        Check.due(34, "digest() after refusals", x.digest(), digest);
        Check.due(30, "asked() after refusals", x.asked(), asked);
        Check.due(27, "reruns() after refusals", x.reruns(), 1);
        Check.due(33, "findings(1)", x.findings(1), 5);
        Check.due(33, "findings(2)", x.findings(2), 2);
        Check.due(33, "findings(3)", x.findings(3), 1);
        Check.due(33, "findings(5)", x.findings(5), 1);
    }
}

/** Promises 23 to 27: halving. */
public final class HalvingTest {
    private static final int N = SlowWatch.NONE;

    public static void main(String[] args) {
        beforeAny();
        halveRefuses();
        mostReruns();
        votesAreAllTaken();
        newHalvingBeginsAnew();
        findsEachBuild();
        findsThoughSomeLie();
        Check.end();
    }

    private static SlowWatch withBuilds(int n) {
        SlowWatch x = new SlowWatch();
        x.builds(n);
        return x;
    }

    private static void beforeAny() {
        SlowWatch x = withBuilds(5);
        Check.due(24, "asks() before any", x.asks(), SlowWatch.STATE);
        Check.due(25, "rerun(false) before any", x.rerun(false), SlowWatch.STATE);
        Check.due(26, "found() before any", x.found(), SlowWatch.STATE);
        Check.due(27, "reruns() before any", x.reruns(), 0);
        Check.due(23, "halve that is refused", x.halve(3, 3, 1), SlowWatch.BAD);
        Check.due(24, "asks() after a refused one", x.asks(), SlowWatch.STATE);
        Check.due(24, "finding(): STATE is none", x.finding(), 0);
    }

    private static void halveRefuses() {
        SlowWatch x = withBuilds(10);
        int[][] bad = {{-1, 5, 1}, {5, 5, 1}, {6, 5, 1}, {0, 10, 1}, {0, 5, 0}, {0, 5, 2}, {0, 5, 4}, {0, 5, 6}, {0, 5, 7},
            {0, 5, -1}, {Integer.MIN_VALUE, 5, 1}, {0, Integer.MAX_VALUE, 1}, {0, 5, Integer.MIN_VALUE},
            {Integer.MAX_VALUE, Integer.MIN_VALUE, 1}};
        for (int[] b : bad) {
            Check.due(23, "halve(" + b[0] + ", " + b[1] + ", " + b[2] + ")", x.halve(b[0], b[1], b[2]), SlowWatch.BAD);
        }
        Check.due(23, "halve(0, 9, 1)", x.halve(0, 9, 1), 4);
        x.rerun(true);
        Check.due(23, "halve that is refused", x.halve(0, 10, 1), SlowWatch.BAD);
        Check.due(23, "asks(): the refused one changed nothing", x.asks(), 2);
        Check.due(23, "reruns(): the refused one changed nothing", x.reruns(), 1);
    }

    private static void mostReruns() {
        SlowWatch x = withBuilds(40);
        int[] depths = {0, 0, 1, 2, 2, 3, 3, 3, 3, 4, 4, 4, 4, 4, 4, 4, 4, 5};
        for (int w = 1; w < depths.length; w++) {
            for (int votes = 1; votes <= 5; votes += 2) {
                Check.due(23, "halve(2, " + (2 + w) + ", " + votes + ")", x.halve(2, 2 + w, votes), votes * depths[w]);
            }
        }
        Check.due(23, "halve(0, 32, 5)", x.halve(0, 32, 5), 25);
        Check.due(23, "halve(0, 33, 5)", x.halve(0, 33, 5), 30);
        Check.due(23, "halve(38, 39, 1)", x.halve(38, 39, 1), 0);
    }

    private static void votesAreAllTaken() {
        SlowWatch x = withBuilds(9);
        x.halve(0, 8, 5);
        for (int left = 4; left >= 0; left--) {
            Check.due(24, "asks() until the last one", x.asks(), 4);
            Check.due(26, "found() until the end", x.found(), N);
            Check.due(25, "rerun(true)", x.rerun(true), left);
        }
        Check.due(24, "asks()", x.asks(), 2);
        boolean[] two = {true, false, true, false, false};
        for (int k = 0; k < 5; k++) {
            Check.due(25, "rerun(" + two[k] + ")", x.rerun(two[k]), 4 - k);
        }
        Check.due(24, "asks(): two of five are not more", x.asks(), 3);
        boolean[] three = {false, true, false, true, true};
        for (int k = 0; k < 5; k++) {
            Check.due(25, "rerun(" + three[k] + ")", x.rerun(three[k]), 4 - k);
        }
        Check.due(24, "asks() at the end", x.asks(), N);
        Check.due(26, "found()", x.found(), 3);
        Check.due(27, "reruns()", x.reruns(), 15);
        Check.due(25, "rerun at the end", x.rerun(true), SlowWatch.STATE);
        Check.due(27, "reruns() after that", x.reruns(), 15);
        Check.due(26, "found() after that", x.found(), 3);
    }

    private static void newHalvingBeginsAnew() {
        SlowWatch x = withBuilds(9);
        x.halve(0, 8, 3);
        x.rerun(true);
        x.rerun(true);
        Check.due(23, "halve in the midst of another", x.halve(4, 8, 3), 6);
        Check.due(27, "reruns()", x.reruns(), 0);
        Check.due(24, "asks()", x.asks(), 6);
        Check.due(25, "rerun: earlier votes are gone", x.rerun(false), 2);
        x.rerun(false);
        Check.due(25, "rerun, the last one", x.rerun(true), 0);
        Check.due(24, "asks()", x.asks(), 7);
        x.builds(20);
        Check.due(24, "asks() with more BUILDS", x.asks(), 7);
    }

    /** Where all reruns are honest, each BUILD is found, with no more reruns than told. */
    private static void findsEachBuild() {
        for (int culprit = 4; culprit <= 37; culprit++) {
            SlowWatch x = withBuilds(40);
            int most = x.halve(3, 37, 3);
            for (int turn = 0; turn < 100 && x.asks() != N; turn++) {
                x.rerun(x.asks() >= culprit);
            }
            Check.due(26, "found() of " + culprit, x.found(), culprit);
            Check.isTrue("reruns are at most those told", x.reruns() <= most);
        }
    }

    private static void findsThoughSomeLie() {
        for (int culprit = 1; culprit <= 39; culprit++) {
            SlowWatch x = withBuilds(40);
            x.halve(0, 39, 5);
            for (int turn = 0; turn < 100 && x.asks() != N; turn++) {
                boolean lie = turn % 5 == culprit % 5 || turn % 5 == 4;
                x.rerun(x.asks() >= culprit != lie);
            }
            Check.due(26, "found() of " + culprit + " though some lie", x.found(), culprit);
        }
    }
}

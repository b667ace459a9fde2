/** The boundary cases of the Terms' fourth part and of promises 23 to 27: a method for each sentence. */
public final class HalvingEdgesTest {
    private static final int N = SlowWatch.NONE;
    private static final int LEAST = Integer.MIN_VALUE;
    private static final int MOST = Integer.MAX_VALUE;

    public static void main(String[] args) {
        loFromNoughtOn();
        loBelowHi();
        hiBelowBuilds();
        tooFewBuilds();
        votesOneThreeFive();
        mostRerunsOfEachWidth();
        endsAtOnce();
        refusedOneBeginsNothing();
        refusedOneLeavesTheOther();
        asksHalfCut();
        asksNoneAtItsEnd();
        stateBeforeAny();
        rerunsStillToCome();
        rerunAtItsEnd();
        moreSlowThanNot();
        votesOfThisBuildAlone();
        votesOfThisHalvingAlone();
        foundAtEitherEnd();
        foundBeforeItsEnd();
        rerunsBeforeAny();
        rerunsOfTheLatestAlone();
        refusedRerunsDoNotCount();
        moreBuildsChangeNothing();
        longestWay();
        Check.end();
    }

    private static SlowWatch withBuilds(int n) {
        SlowWatch x = new SlowWatch();
        x.builds(n);
        return x;
    }

    private static SlowWatch halving(int builds, int lo, int hi, int votes) {
        SlowWatch x = withBuilds(builds);
        x.halve(lo, hi, votes);
        return x;
    }

    /** "0 <= lo". */
    private static void loFromNoughtOn() {
        for (int lo : new int[] {LEAST, -40, -9, -1}) {
            Check.due(23, "halve(" + lo + ", 5, 1)", withBuilds(10).halve(lo, 5, 1), SlowWatch.BAD);
        }
        Check.due(23, "halve(0, 5, 1)", withBuilds(10).halve(0, 5, 1), 3);
        Check.due(23, "halve(-1, 0, 1)", withBuilds(10).halve(-1, 0, 1), SlowWatch.BAD);
    }

    /** "lo < hi". */
    private static void loBelowHi() {
        for (int lo : new int[] {5, 6, 9, 10, MOST}) {
            Check.due(23, "halve(" + lo + ", 5, 1)", withBuilds(10).halve(lo, 5, 1), SlowWatch.BAD);
        }
        Check.due(23, "halve(4, 5, 1)", withBuilds(10).halve(4, 5, 1), 0);
        Check.due(23, "halve(0, 0, 1)", withBuilds(10).halve(0, 0, 1), SlowWatch.BAD);
        Check.due(23, "halve(most, least, 1)", withBuilds(10).halve(MOST, LEAST, 1), SlowWatch.BAD);
        Check.due(23, "halve(least, most, 1)", withBuilds(10).halve(LEAST, MOST, 1), SlowWatch.BAD);
    }

    /** "hi < B". */
    private static void hiBelowBuilds() {
        for (int n = 2; n <= 40; n++) {
            Check.due(23, "halve up to the last of " + n, withBuilds(n).halve(n - 2, n - 1, 1), 0);
            Check.due(23, "halve beyond the last of " + n, withBuilds(n).halve(n - 2, n, 1), SlowWatch.BAD);
        }
        Check.due(23, "halve(0, 40, 1) of 40", withBuilds(40).halve(0, 40, 1), SlowWatch.BAD);
        Check.due(23, "halve(0, most, 1) of 40", withBuilds(40).halve(0, MOST, 1), SlowWatch.BAD);
        SlowWatch x = withBuilds(5);
        Check.due(23, "halve(0, 5, 1) of 5", x.halve(0, 5, 1), SlowWatch.BAD);
        x.builds(6);
        Check.due(23, "halve(0, 5, 1) of 6", x.halve(0, 5, 1), 3);
    }

    private static void tooFewBuilds() {
        for (int n : new int[] {0, 1}) {
            for (int[] c : new int[][] {{0, 0}, {0, 1}, {-1, 0}, {1, 2}}) {
                Check.due(23, "halve(" + c[0] + ", " + c[1] + ", 1) of " + n, withBuilds(n).halve(c[0], c[1], 1), SlowWatch.BAD);
            }
        }
        Check.due(23, "halve(0, 1, 1) of 2", withBuilds(2).halve(0, 1, 1), 0);
    }

    /** "VOTES times (1, 3, 5)". */
    private static void votesOneThreeFive() {
        for (int v = -6; v <= 10; v++) {
            boolean taken = v == 1 || v == 3 || v == 5;
            Check.due(23, "halve(0, 2, " + v + ")", withBuilds(3).halve(0, 2, v), taken ? v : SlowWatch.BAD);
        }
        Check.due(23, "halve(0, 2, least)", withBuilds(3).halve(0, 2, LEAST), SlowWatch.BAD);
        Check.due(23, "halve(0, 2, most)", withBuilds(3).halve(0, 2, MOST), SlowWatch.BAD);
        Check.due(23, "halve(0, 1, 2), though none is taken", withBuilds(3).halve(0, 1, 2), SlowWatch.BAD);
    }

    /** "how many reruns it takes at most": powers of two, and one more. */
    private static void mostRerunsOfEachWidth() {
        for (int wide = 1; wide <= 39; wide++) {
            int turns = 0;
            while (1 << turns < wide) {
                turns++;
            }
            for (int votes = 1; votes <= 5; votes += 2) {
                Check.due(23, "halve(0, " + wide + ", " + votes + ")", withBuilds(40).halve(0, wide, votes), votes * turns);
                Check.due(23, "the same at the end", withBuilds(40).halve(39 - wide, 39, votes), votes * turns);
            }
        }
    }

    /** "It ends as hi is lo + 1." */
    private static void endsAtOnce() {
        for (int lo : new int[] {0, 1, 38}) {
            SlowWatch x = halving(40, lo, lo + 1, 5);
            Check.due(24, "asks() of " + lo, x.asks(), N);
            Check.due(26, "found() of " + lo, x.found(), lo + 1);
            Check.due(25, "rerun(true) of " + lo, x.rerun(true), SlowWatch.STATE);
            Check.due(25, "rerun(false) of " + lo, x.rerun(false), SlowWatch.STATE);
            Check.due(27, "reruns() of " + lo, x.reruns(), 0);
        }
    }

    private static void refusedOneBeginsNothing() {
        SlowWatch x = withBuilds(5);
        x.halve(0, 5, 1);
        x.halve(0, 4, 2);
        Check.due(24, "asks() after refused ones", x.asks(), SlowWatch.STATE);
        Check.due(26, "found() after refused ones", x.found(), SlowWatch.STATE);
        Check.due(25, "rerun() after refused ones", x.rerun(true), SlowWatch.STATE);
        Check.due(27, "reruns() after refused ones", x.reruns(), 0);
    }

    private static void refusedOneLeavesTheOther() {
        SlowWatch x = halving(9, 0, 8, 3);
        x.rerun(true);
        x.rerun(true);
        Check.due(23, "halve(0, 9, 3)", x.halve(0, 9, 3), SlowWatch.BAD);
        Check.due(23, "halve(0, 8, 4)", x.halve(0, 8, 4), SlowWatch.BAD);
        Check.due(27, "reruns()", x.reruns(), 2);
        Check.due(25, "rerun(false): the third vote", x.rerun(false), 0);
        Check.due(24, "asks(): two of three told slow", x.asks(), 2);
    }

    /** "mid = lo and half of what hi is more (cut)". */
    private static void asksHalfCut() {
        int[][] cases = {{0, 2, 1}, {0, 3, 1}, {0, 4, 2}, {0, 5, 2}, {1, 3, 2}, {1, 4, 2}, {37, 39, 38}, {36, 39, 37}, {0, 39, 19}};
        for (int[] c : cases) {
            Check.due(24, "asks() of " + c[0] + ", " + c[1], halving(40, c[0], c[1], 1).asks(), c[2]);
        }
    }

    /** "NONE: it has ended". */
    private static void asksNoneAtItsEnd() {
        for (boolean slow : new boolean[] {true, false}) {
            SlowWatch x = halving(3, 0, 2, 1);
            Check.due(24, "asks()", x.asks(), 1);
            x.rerun(slow);
            Check.due(24, "asks() at its end", x.asks(), N);
            Check.due(24, "asks() at its end again", x.asks(), N);
        }
    }

    /** "STATE: none was begun". */
    private static void stateBeforeAny() {
        for (int n : new int[] {0, 1, 40}) {
            SlowWatch x = withBuilds(n);
            Check.due(24, "asks() before any", x.asks(), SlowWatch.STATE);
            Check.due(25, "rerun(true) before any", x.rerun(true), SlowWatch.STATE);
            Check.due(25, "rerun(false) before any", x.rerun(false), SlowWatch.STATE);
            Check.due(26, "found() before any", x.found(), SlowWatch.STATE);
            Check.due(32, "finding(): STATE is none", x.finding(), 0);
        }
    }

    /** "how many reruns of this BUILD are still to come (0: that was the last one)". */
    private static void rerunsStillToCome() {
        for (int votes = 1; votes <= 5; votes += 2) {
            SlowWatch x = halving(9, 0, 8, votes);
            for (int turn = 0; turn < 3; turn++) {
                int asked = x.asks();
                for (int left = votes - 1; left >= 0; left--) {
                    Check.due(24, "asks(): the same until its last one", x.asks(), asked);
                    Check.due(25, "rerun of " + votes, x.rerun(left % 2 == 0), left);
                }
                Check.isTrue("another BUILD is asked", x.asks() != asked);
            }
            Check.due(27, "reruns() at its end", x.reruns(), 3 * votes);
        }
    }

    /** "STATE: .. or it has ended". */
    private static void rerunAtItsEnd() {
        SlowWatch x = halving(3, 0, 2, 3);
        x.rerun(true);
        x.rerun(true);
        Check.due(25, "rerun, the last one", x.rerun(true), 0);
        for (boolean slow : new boolean[] {true, false}) {
            Check.due(25, "rerun(" + slow + ") at its end", x.rerun(slow), SlowWatch.STATE);
            Check.due(26, "found() stays", x.found(), 1);
            Check.due(27, "reruns() stay", x.reruns(), 3);
        }
        Check.due(23, "halve again", x.halve(0, 2, 1), 1);
        Check.due(25, "rerun of the new one", x.rerun(false), 0);
        Check.due(26, "found() of the new one", x.found(), 2);
    }

    /** "if more of these tell slow than not, hi is mid, else lo": each number of slow ones, in any order. */
    private static void moreSlowThanNot() {
        for (int votes = 1; votes <= 5; votes += 2) {
            for (int set = 0; set < 1 << votes; set++) {
                SlowWatch x = halving(5, 1, 3, votes);
                for (int k = 0; k < votes; k++) {
                    x.rerun((set >> k & 1) != 0);
                }
                int want = 2 * Integer.bitCount(set) > votes ? 2 : 3;
                Check.due(26, "found() of votes " + Integer.toBinaryString(set) + " of " + votes, x.found(), want);
            }
        }
    }

    private static void vote(SlowWatch x, boolean... told) {
        for (boolean slow : told) {
            x.rerun(slow);
        }
    }

    private static void votesOfThisBuildAlone() {
        SlowWatch x = halving(9, 0, 8, 3);
        vote(x, true, true, true);
        Check.due(24, "asks() after three slow ones", x.asks(), 2);
        vote(x, false, false, true);
        Check.due(24, "asks() after one slow one", x.asks(), 3);
        vote(x, true, true, false);
        Check.due(26, "found() after two slow ones", x.found(), 3);
    }

    private static void votesOfThisHalvingAlone() {
        SlowWatch x = halving(9, 0, 8, 5);
        vote(x, true, true, true, true);
        x.halve(0, 8, 3);
        vote(x, false, false, true);
        Check.due(24, "asks() after one slow one of a new halving", x.asks(), 6);
    }

    /** "one of the BUILDS lo + 1 .. hi did it". */
    private static void foundAtEitherEnd() {
        for (boolean slow : new boolean[] {true, false}) {
            SlowWatch x = halving(40, 0, 39, 1);
            for (int k = 0; k < 6 && x.asks() != N; k++) {
                x.rerun(slow);
            }
            Check.due(26, "found() of all " + slow, x.found(), slow ? 1 : 39);
        }
    }

    /** "NONE: it has not ended". */
    private static void foundBeforeItsEnd() {
        SlowWatch x = halving(3, 0, 2, 3);
        for (int k = 0; k < 3; k++) {
            Check.due(26, "found() ahead of vote " + k, x.found(), N);
            x.rerun(false);
        }
        Check.due(26, "found() behind the last one", x.found(), 2);
    }

    /** "0 before any". */
    private static void rerunsBeforeAny() {
        SlowWatch x = new SlowWatch();
        Check.due(27, "reruns() of a new object", x.reruns(), 0);
        x.rerun(true);
        Check.due(27, "reruns() after a refused one", x.reruns(), 0);
        x.builds(4);
        x.halve(0, 3, 1);
        Check.due(27, "reruns() of one just begun", x.reruns(), 0);
        x.rerun(true);
        Check.due(27, "reruns()", x.reruns(), 1);
    }

    /** "in the latest HALVING". */
    private static void rerunsOfTheLatestAlone() {
        SlowWatch x = halving(9, 0, 8, 5);
        for (int k = 0; k < 7; k++) {
            x.rerun(true);
        }
        Check.due(27, "reruns()", x.reruns(), 7);
        x.halve(3, 4, 5);
        Check.due(27, "reruns() of one that ended at once", x.reruns(), 0);
        x.halve(0, 8, 5);
        Check.due(27, "reruns() of a new one", x.reruns(), 0);
        Check.due(25, "rerun: no vote is left of the old one", x.rerun(false), 4);
    }

    private static void refusedRerunsDoNotCount() {
        SlowWatch x = halving(3, 0, 2, 1);
        x.rerun(true);
        x.rerun(true);
        x.rerun(false);
        Check.due(27, "reruns()", x.reruns(), 1);
    }

    private static void moreBuildsChangeNothing() {
        SlowWatch x = halving(9, 0, 8, 3);
        x.rerun(false);
        x.builds(40);
        Check.due(24, "asks() with more BUILDS", x.asks(), 4);
        Check.due(25, "rerun() with more BUILDS", x.rerun(false), 1);
        Check.due(25, "rerun(), the last one", x.rerun(true), 0);
        Check.due(24, "asks()", x.asks(), 6);
    }

    /** The longest of all: six turns of five votes; no way through takes more than halve() told. */
    private static void longestWay() {
        for (int way = 0; way < 64; way++) {
            SlowWatch x = withBuilds(40);
            int most = x.halve(0, 39, 5);
            int turn = 0;
            while (x.asks() != N && turn < 10) {
                boolean slow = (way >> turn & 1) != 0;
                for (int k = 0; k < 5; k++) {
                    x.rerun(slow);
                }
                turn++;
            }
            Check.isTrue("five or six turns", turn == 5 || turn == 6);
            Check.isTrue("no more than told", x.reruns() <= most && most == 30);
            Check.isTrue("found is one of 1 to 39", x.found() >= 1 && x.found() <= 39);
        }
    }
}

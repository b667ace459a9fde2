/** The boundary cases of promises 28 to 34, and the last of 512 calls: a method for each sentence. */
public final class ToldEdgesTest {
    private static final int N = SlowWatch.NONE;
    private static final int LEAST = Integer.MIN_VALUE;
    private static final int MOST = Integer.MAX_VALUE;

    public static void main(String[] args) {
        upperAndLowerBefore();
        upperAndLowerOfOddsAloneThatAnsweredOne();
        askedBefore();
        askedOfTheLatest();
        askedOfCutsThatAreNone();
        askedAfterNoneAndRefusals();
        askedAfterCriesOfNone();
        countFromNoughtToThree();
        countOfNothingAtAll();
        countOfEverything();
        countRowsThatAreThere();
        countAlarmsEver();
        findingBeforeAny();
        findingIsTheLatest();
        findingsFromOneToFive();
        findingsOfMany();
        findingsOfNoOtherRefusal();
        digestOfNothing();
        digestOfEverything();
        digestOfMissingAndEmptyRows();
        digestOfPlacesWithoutBuilds();
        digestOfAHalving();
        digestOfAlarmsEver();
        digestChangesNothing();
        theLastOf512Calls();
        Check.end();
    }

    /** "0 before", "1 before". */
    private static void upperAndLowerBefore() {
        SlowWatch x = new SlowWatch();
        Check.due(28, "upper() before", x.upper(), 0);
        Check.due(29, "lower() before", x.lower(), 1);
        x.odds(0, 0, 0);
        x.test(0);
        x.odds(0, 0, 0);
        x.row(0, 0);
        x.odds(0, 0, 0);
        Check.due(28, "upper() after BAD, FINDING, NONE", x.upper(), 0);
        Check.due(29, "lower() after BAD, FINDING, NONE", x.lower(), 1);
    }

    /** "of what odds() that answered 1 told last". */
    private static void upperAndLowerOfOddsAloneThatAnsweredOne() {
        SlowWatch x = Check.withRow(3, 0, 1, 1, 9);
        x.price(0);
        x.odds(0, 0, 0);
        long[][] told = {{x.upper(), x.lower()}, {1, 3}};
        Check.due(28, "upper()", told[0][0], told[1][0]);
        Check.due(29, "lower()", told[0][1], told[1][1]);
        x.builds(40);
        for (int b = 3; b < 22; b++) {
            x.lay(0, 0, b, 9);
        }
        Check.due(20, "odds of 22", x.odds(0, 0, 0), 0);
        x.odds(0, 0, 1);
        x.odds(0, 0, -1);
        x.odds(0, 1, 0);
        x.odds(0, 4, 0);
        x.cry(0, 1, 1);
        x.tear(0, 0);
        Check.due(28, "upper() after 0, NONE, refusals, cry", x.upper(), 1);
        Check.due(29, "lower() after 0, NONE, refusals, cry", x.lower(), 3);
        x.row(0, 0);
        Check.layAll(x, 0, 0, 1, 9, 9, 9);
        Check.due(21, "cry of 1 by 4", x.cry(8, 0, 1), 0);
        Check.due(29, "lower() after cry that looked at ODDS", x.lower(), 3);
        x.odds(0, 0, 0);
        Check.due(29, "lower() of the latest odds", x.lower(), 4);
    }

    /** "0 before". */
    private static void askedBefore() {
        SlowWatch x = new SlowWatch();
        Check.due(30, "asked() before", x.asked(), 0);
        x.cuts(0, 0);
        x.cry(0, 1, 1);
        x.test(0);
        x.cuts(0, 0);
        x.size(0, 0, 0);
        x.row(0, 0);
        x.size(0, 0, 0);
        Check.due(30, "asked() after BAD, FINDING, NONE, and 0 cried", x.asked(), 0);
    }

    /** "What the latest cuts(), size(), cry() .. told". */
    private static void askedOfTheLatest() {
        SlowWatch x = Check.withRow(2, 0, 5, 12);
        x.price(1);
        x.cuts(0, 0);
        Check.due(30, "asked() of cuts", x.asked(), 1);
        x.size(0, 0, 0);
        Check.due(30, "asked() of size", x.asked(), 7);
        x.cry(0, 1, 1);
        Check.due(30, "asked() of cry", x.asked(), 1);
        x.size(0, 0, 0);
        Check.due(30, "asked() of size again", x.asked(), 7);
        x.lay(0, 0, 0, 20);
        Check.due(30, "asked() stays", x.asked(), 7);
        x.size(0, 0, 0);
        Check.due(30, "asked() of a step down", x.asked(), -8);
        x.price(1000);
        x.cuts(0, 0);
        Check.due(30, "asked() of cuts again", x.asked(), 2);
    }

    /** cuts() that answers 0 is not refused: what it told is asked for too. */
    private static void askedOfCutsThatAreNone() {
        SlowWatch x = Check.withRow(2, 0, 5, 12);
        Check.due(13, "cuts", x.cuts(0, 0), 0);
        Check.due(30, "asked() of no cuts", x.asked(), 2);
        x.row(0, 1);
        Check.due(13, "cuts of none", x.cuts(0, 1), 0);
        Check.due(30, "asked() of no measurements", x.asked(), 0);
    }

    /** "that was not refused (nor NONE)". */
    private static void askedAfterNoneAndRefusals() {
        SlowWatch x = Check.withRow(2, 0, 5, 12);
        x.price(1);
        x.size(0, 0, 0);
        for (int i : new int[] {LEAST, -1, 1, MOST}) {
            x.size(0, 0, i);
            Check.due(30, "asked() after size " + i, x.asked(), 7);
        }
        x.size(0, 1, 0);
        x.size(0, 4, 0);
        x.cuts(0, 1);
        x.cuts(1, 0);
        x.cry(-1, 1, 1);
        x.cry(0, 1, 0);
        Check.due(30, "asked() after refusals", x.asked(), 7);
    }

    /** "cry() (1 and more)". */
    private static void askedAfterCriesOfNone() {
        SlowWatch x = Check.withRow(2, 0, 5, 12);
        x.price(1);
        x.size(0, 0, 0);
        Check.due(21, "cry of too small a step", x.cry(8, 1, 1), 0);
        Check.due(30, "asked() after 0 cried", x.asked(), 7);
        Check.due(21, "cry", x.cry(7, 1, 1), 1);
        Check.due(30, "asked() after 1 cried", x.asked(), 1);
        x.size(0, 0, 0);
        Check.due(21, "cry again", x.cry(7, 1, 1), 0);
        Check.due(30, "asked() after 0 cried again", x.asked(), 7);
    }

    private static void countFromNoughtToThree() {
        SlowWatch x = Twins.rich();
        int[] want = {8, 3, 9};
        for (int what = 0; what <= 2; what++) {
            Check.due(31, "count(" + what + ")", x.count(what), want[what]);
        }
        Check.isTrue("promise 31: some were cried", x.count(3) > 0);
        for (int what : new int[] {LEAST, -9, -1, 4, 5, MOST}) {
            Check.due(31, "count(" + what + ")", x.count(what), SlowWatch.BAD);
        }
    }

    private static void countOfNothingAtAll() {
        SlowWatch x = new SlowWatch();
        for (int what = 0; what <= 3; what++) {
            Check.due(31, "count(" + what + ") of a new object", x.count(what), 0);
        }
    }

    private static void countOfEverything() {
        SlowWatch x = Twins.full();
        Check.due(31, "count(0)", x.count(0), 40);
        Check.due(31, "count(1)", x.count(1), 8);
        Check.due(31, "count(2)", x.count(2), 32);
        Check.due(31, "count(3)", x.count(3), 0);
        // Kinds 0 and 1 are looked at: six of the eight TESTS.
        Check.due(21, "cry", x.cry(0, 1, 1), 24);
        Check.due(31, "count(3) after it", x.count(3), 24);
    }

    /** "2 ROWS that are there". */
    private static void countRowsThatAreThere() {
        SlowWatch x = new SlowWatch();
        x.test(0);
        x.test(1);
        x.row(0, 0);
        x.row(0, 0);
        Check.due(31, "count(2), made twice", x.count(2), 1);
        x.row(1, 3);
        Check.due(31, "count(2)", x.count(2), 2);
        x.tear(0, 1);
        x.row(0, 4);
        Check.due(31, "count(2) after refusals", x.count(2), 2);
        x.tear(0, 0);
        Check.due(31, "count(2) after a tear", x.count(2), 1);
        x.tear(1, 3);
        Check.due(31, "count(2) after the last one", x.count(2), 0);
    }

    /** "3 ALARMS ever". */
    private static void countAlarmsEver() {
        SlowWatch x = Check.withRow(2, 0, 1, 2);
        x.price(0);
        x.cry(0, 1, 1);
        x.cry(0, 1, 1);
        x.lay(0, 0, 1, 1);
        x.tear(0, 0);
        Check.due(31, "count(3)", x.count(3), 1);
    }

    /** "(0 before any)". */
    private static void findingBeforeAny() {
        SlowWatch x = new SlowWatch();
        Check.due(32, "finding() of a new object", x.finding(), 0);
        x.tear(0, 0);
        x.rerun(true);
        x.findings(0);
        Check.due(32, "finding() after BAD and STATE", x.finding(), 0);
        for (int f = 1; f <= 5; f++) {
            Check.due(33, "findings(" + f + ") before any", x.findings(f), 0);
        }
    }

    /** "The latest FINDING": no answer that is none changes it. */
    private static void findingIsTheLatest() {
        SlowWatch x = Check.withRow(1, 0, 4);
        x.at(0, 0, 40);
        Check.due(32, "finding()", x.finding(), 2);
        x.at(0, 0, 0);
        x.at(0, 4, 0);
        x.cut(0, 0, 0);
        x.test(3);
        x.asks();
        Check.due(32, "finding() after what was none", x.finding(), 2);
        int[] latest = {1, 5, 4, 3, 2, 1, 4, 2, 3, 5, 1, 3};
        for (int f : latest) {
            find(x, f);
            Check.due(32, "finding() after " + f, x.finding(), f);
        }
    }

    /** On an object with TEST 0 of KIND 0, its ROW on MACHINE 0, BUILD 0, and no other BUILDS and ROWS. */
    private static void find(SlowWatch x, int finding) {
        switch (finding) {
            case 1 -> x.at(0, 1, 0);
            case 2 -> x.rank(0, 0, 1);
            case 3 -> x.undone(0, 0, 0);
            case 4 -> {
                x.row(0, 0);
                x.mean(0, 0);
            }
            default -> x.copy(0, 0, 0, 0, 0, -1);
        }
    }

    /** "a FINDING (1 .. 5)". */
    private static void findingsFromOneToFive() {
        SlowWatch x = new SlowWatch();
        for (int f : new int[] {LEAST, -9, -1, 0, 6, 7, MOST}) {
            Check.due(33, "findings(" + f + ")", x.findings(f), SlowWatch.BAD);
        }
        for (int f = 1; f <= 5; f++) {
            Check.due(33, "findings(" + f + ")", x.findings(f), 0);
        }
    }

    /** "How often a FINDING .. was answered": each by itself, and as often as calls allow. */
    private static void findingsOfMany() {
        SlowWatch x = Check.withRow(1, 0);
        for (int k = 1; k <= 90; k++) {
            x.tear(0, 1);
            x.lay(0, 0, 40, 1);
            x.undone(0, 0, 0);
            x.mean(0, 0);
            x.copy(0, 0, 0, 0, 0, -k);
        }
        for (int f = 1; f <= 5; f++) {
            Check.due(33, "findings(" + f + ")", x.findings(f), 90);
        }
    }

    private static void findingsOfNoOtherRefusal() {
        SlowWatch x = Check.withRow(1, 0);
        for (int t = 0; t < 9; t++) {
            x.test(0);
        }
        x.asks();
        x.rerun(false);
        x.lay(0, 0, 0, -1);
        x.size(0, 0, 0);
        for (int f = 1; f <= 5; f++) {
            Check.due(33, "findings(" + f + ") after FULL, STATE, BAD, NONE", x.findings(f), 0);
        }
    }

    private static long join(long start, int... values) {
        long h = start;
        for (int v : values) {
            h = 31 * h + v;
        }
        return h;
    }

    private static long joinTimes(long start, int v, int times) {
        long h = start;
        for (int k = 0; k < times; k++) {
            h = 31 * h + v;
        }
        return h;
    }

    private static void digestOfNothing() {
        Check.due(34, "digest() of a new object", new SlowWatch().digest(), join(17, 0, 20, 1, 0, -4, -4, 0));
    }

    /** 8 TESTS, 32 ROWS, 1280 places: it wraps around many times. */
    private static void digestOfEverything() {
        SlowWatch x = Twins.full();
        x.price(1000);
        x.reach(5);
        x.halve(0, 39, 5);
        long h = join(17, 40, 1000, 5);
        for (int t = 0; t < 8; t++) {
            h = join(h, t % 3);
            for (int m = 0; m < 4; m++) {
                h = joinTimes(h, 1000 * t, 20);
                for (int b = 20; b < 40; b++) {
                    h = join(h, 1000000 - b % 3);
                }
            }
        }
        Check.due(34, "digest() of everything", x.digest(), join(h, 0, 19, N, 0));
    }

    /** "its 40 places (NONE: none; a ROW that is missing: -1 once)". */
    private static void digestOfMissingAndEmptyRows() {
        SlowWatch x = new SlowWatch();
        x.test(1);
        long h = join(17, 0, 20, 1, 1);
        Check.due(34, "digest() of missing ROWS", x.digest(), join(h, -1, -1, -1, -1, 0, -4, -4, 0));
        x.row(0, 1);
        Check.due(34, "digest() of a ROW without measurements", x.digest(),
            join(joinTimes(join(h, -1), N, 40), -1, -1, 0, -4, -4, 0));
        x.lay(0, 1, 0, 0);
        x.lay(0, 1, 39, 1000000);
        long g = join(joinTimes(join(h, -1, 0), N, 38), 1000000);
        Check.due(34, "digest() of its first and last place", x.digest(), join(g, -1, -1, 0, -4, -4, 0));
        x.tear(0, 1);
        Check.due(34, "digest() of a ROW that was torn", x.digest(), join(h, -1, -1, -1, -1, 0, -4, -4, 0));
    }

    /** All 40 places, whether their BUILDS are there or not. */
    private static void digestOfPlacesWithoutBuilds() {
        for (int n : new int[] {0, 1, 40}) {
            SlowWatch x = Check.withRow(n, 0);
            x.lay(0, 0, 39, 6);
            long h = joinTimes(join(17, n, 20, 1, 0), N, 39);
            Check.due(34, "digest() of " + n + " BUILDS", x.digest(), join(h, 6, -1, -1, -1, 0, -4, -4, 0));
        }
    }

    /** "asks() (STATE: none begun), found(), reruns()". */
    private static void digestOfAHalving() {
        SlowWatch x = new SlowWatch();
        x.builds(3);
        long h = join(17, 3, 20, 1, 0);
        Check.due(34, "digest(), none begun", x.digest(), join(h, -4, -4, 0));
        x.halve(0, 2, 3);
        Check.due(34, "digest(), just begun", x.digest(), join(h, 1, N, 0));
        x.rerun(true);
        x.rerun(true);
        Check.due(34, "digest(), amid its votes", x.digest(), join(h, 1, N, 2));
        x.rerun(true);
        Check.due(34, "digest(), ended", x.digest(), join(h, N, 1, 3));
        x.halve(1, 2, 1);
        Check.due(34, "digest(), ended at once", x.digest(), join(h, N, 2, 0));
    }

    private static void digestOfAlarmsEver() {
        SlowWatch x = Check.withRow(2, 0, 1, 2);
        x.price(0);
        long before = x.digest();
        x.cry(2, 1, 1);
        Check.due(34, "digest() after 0 cried", x.digest(), before);
        x.cry(1, 1, 1);
        // The ALARMS stand ahead of three more: one more of them is 31 * 31 * 31 more.
        Check.due(34, "digest() after 1 cried", x.digest(), before + 29791);
        x.cry(1, 1, 1);
        Check.due(34, "digest() after 0 cried again", x.digest(), before + 29791);
    }

    private static void digestChangesNothing() {
        Twins.leave(34, "digest()", Twins::rich, x -> x.digest() == x.digest() ? 1 : 0, 1);
        Twins.leave(28, "what is told", Twins::rich, ToldEdgesTest::askAll, 8);
    }

    private static int askAll(SlowWatch x) {
        x.upper();
        x.lower();
        x.asked();
        x.finding();
        x.reruns();
        x.asks();
        x.found();
        for (int k = -1; k < 7; k++) {
            x.count(k);
            x.findings(k);
            x.cried(k);
        }
        return x.count(0);
    }

    /** "An object is used for at most 512 calls": the last one is as good as the first. */
    private static void theLastOf512Calls() {
        SlowWatch x = new SlowWatch();
        x.builds(40);
        x.test(0);
        x.row(0, 0);
        for (int k = 0; k < 508; k++) {
            int b = k % 40;
            Check.due(6, "lay " + k, x.lay(0, 0, b, k), k < 40 ? N : k - 40);
        }
        // Of the last 40 laid, 480 to 507 are on 0 to 27, and 468 to 479 on 28 to 39: the greatest one is on 27.
        Check.due(10, "rank, the 512th call", x.rank(0, 0, 27), 79);
    }
}

/** The boundary cases of the Terms' first part and of promises 1 to 11: a method for each sentence. */
public final class RowEdgesTest {
    private static final int N = SlowWatch.NONE;
    private static final int LEAST = Integer.MIN_VALUE;
    private static final int MOST = Integer.MAX_VALUE;
    private static final int MILLION = 1000000;

    public static void main(String[] args) {
        noBuildsAtFirst();
        noTestsAtFirst();
        buildsUpTo40();
        buildsNotFewerThanThereAre();
        buildsAsManyAsThereAre();
        testsEightAtMost();
        kindsFromNoughtToTwo();
        testNumbersInOrder();
        allRowsMissingAtFirst();
        isOfAKind();
        isOfTheLastTest();
        machinesFromNoughtToThree();
        rowIsThereWithoutMeasurements();
        rowTellsWhetherItWasThere();
        rowsOfOthersStay();
        measurementsUpToAMillion();
        noneTakesAMeasurementAway();
        onlyMinusNineIsNone();
        layOnEachPlace();
        layThereOrNot();
        layTellsWhatItWas();
        atOnEachPlace();
        tearTakesAllAway();
        tearTwice();
        tearAndMakeAgain();
        copyOfNone();
        copyOfAll();
        copyNotSoManyThere();
        copyWrapsNowhere();
        copyOfLaterPlaces();
        copyAsIfTakenAhead();
        copyTakesNoneAlong();
        rankAlone();
        rankOfAllAlike();
        rankOfFortyInOrder();
        rankOfTheGreatestAndLeastMeasurement();
        rankOfTheLastBuild();
        rankCountsOnlyBuildsThere();
        meanIsCut();
        meanOfNoughts();
        meanOfTheGreatest();
        meanCountsOnlyBuildsThere();
        Check.end();
    }

    /** "BUILDS 0 .. B - 1 (B 0 .. 40; 0 at first)", "No BUILDS". */
    private static void noBuildsAtFirst() {
        SlowWatch x = new SlowWatch();
        Check.due(1, "count(0) at first", x.count(0), 0);
        x.test(0);
        x.row(0, 0);
        x.lay(0, 0, 0, 7);
        Check.due(1, "rank of BUILD 0 at first", x.rank(0, 0, 0), SlowWatch.FINDING);
        Check.due(1, "finding(): no BUILD", x.finding(), 2);
        Check.due(1, "mean at first", x.mean(0, 0), SlowWatch.FINDING);
        Check.due(1, "finding(): none counts", x.finding(), 4);
        Check.due(1, "middle at first", x.middle(0, 0, 0), N);
        Check.due(1, "cuts at first", x.cuts(0, 0), 0);
        Check.due(1, "builds(0) at first: not fewer", x.builds(0), 0);
    }

    /** "No TESTS". */
    private static void noTestsAtFirst() {
        SlowWatch x = new SlowWatch();
        Check.due(1, "count(1) at first", x.count(1), 0);
        Check.due(1, "count(2) at first", x.count(2), 0);
        Check.due(1, "is(0, 0) at first", x.is(0, 0), SlowWatch.BAD);
        Check.due(1, "cry at first", x.cry(0, MILLION, 1), 0);
        Check.due(1, "test(0): the first one is 0", x.test(0), 0);
    }

    /** "There are n BUILDS (0 .. 40 ..): n." */
    private static void buildsUpTo40() {
        for (int n = 0; n <= 40; n++) {
            SlowWatch x = new SlowWatch();
            Check.due(2, "builds(" + n + ")", x.builds(n), n);
            Check.due(2, "count(0)", x.count(0), n);
        }
        for (int n : new int[] {LEAST, -41, -1, 41, 42, 80, MOST}) {
            SlowWatch x = new SlowWatch();
            Check.due(2, "builds(" + n + ")", x.builds(n), SlowWatch.BAD);
            Check.due(2, "count(0)", x.count(0), 0);
        }
    }

    /** "not fewer than there are". */
    private static void buildsNotFewerThanThereAre() {
        SlowWatch x = new SlowWatch();
        for (int n = 1; n <= 40; n++) {
            x.builds(n);
            Check.due(2, "builds(" + (n - 1) + ") of " + n, x.builds(n - 1), SlowWatch.BAD);
            Check.due(2, "builds(0) of " + n, x.builds(0), SlowWatch.BAD);
            Check.due(2, "count(0)", x.count(0), n);
        }
        Check.due(2, "builds(41) of 40", x.builds(41), SlowWatch.BAD);
        Check.due(2, "count(0)", x.count(0), 40);
    }

    private static void buildsAsManyAsThereAre() {
        for (int n : new int[] {0, 1, 39, 40}) {
            SlowWatch x = new SlowWatch();
            x.builds(n);
            Check.due(2, "builds(" + n + ") again", x.builds(n), n);
        }
    }

    /** "TESTS 0, 1, .. (8 at most)". */
    private static void testsEightAtMost() {
        SlowWatch x = new SlowWatch();
        for (int t = 0; t < 8; t++) {
            Check.due(3, "test(0), number " + t, x.test(0), t);
            Check.due(3, "count(1)", x.count(1), t + 1);
        }
        for (int again = 0; again < 3; again++) {
            Check.due(3, "test(0), a ninth", x.test(0), SlowWatch.FULL);
            Check.due(3, "count(1)", x.count(1), 8);
        }
        Check.due(3, "finding(): FULL is none", x.finding(), 0);
        Check.due(3, "row(7, 0)", x.row(7, 0), 0);
        Check.due(3, "row(8, 0)", x.row(8, 0), SlowWatch.BAD);
    }

    /** "are of a KIND: 0 TEST, 1 PAIRED (a TEST), 2 QUIET (a TEST)". */
    private static void kindsFromNoughtToTwo() {
        for (int kind : new int[] {0, 1, 2}) {
            Check.due(3, "test(" + kind + ")", new SlowWatch().test(kind), 0);
        }
        for (int kind : new int[] {LEAST, -1, 3, 4, MOST}) {
            SlowWatch x = new SlowWatch();
            Check.due(3, "test(" + kind + ")", x.test(kind), SlowWatch.BAD);
            Check.due(3, "count(1)", x.count(1), 0);
        }
    }

    private static void testNumbersInOrder() {
        SlowWatch x = new SlowWatch();
        x.test(2);
        x.test(-1);
        x.test(3);
        Check.due(3, "test(1) behind refused ones", x.test(1), 1);
    }

    /** "all ROWS missing". */
    private static void allRowsMissingAtFirst() {
        SlowWatch x = new SlowWatch();
        for (int t = 0; t < 8; t++) {
            x.test(t % 3);
            for (int m = 0; m < 4; m++) {
                Check.due(3, "at(" + t + ", " + m + ", 0)", x.at(t, m, 0), SlowWatch.FINDING);
                Check.due(3, "finding()", x.finding(), 1);
            }
        }
        Check.due(3, "count(2)", x.count(2), 0);
        Check.due(3, "findings(1)", x.findings(1), 32);
    }

    /** "Whether a TEST IS of a KIND: 1, 0": PAIRED and QUIET ones are TESTS as well. */
    private static void isOfAKind() {
        int[][] want = {{1, 0, 0}, {1, 1, 0}, {1, 0, 1}};
        for (int kind = 0; kind <= 2; kind++) {
            SlowWatch x = new SlowWatch();
            x.test(kind);
            for (int k = 0; k <= 2; k++) {
                Check.due(4, "is(0, " + k + ") of KIND " + kind, x.is(0, k), want[kind][k]);
            }
            for (int k : new int[] {LEAST, -1, 3, MOST}) {
                Check.due(4, "is(0, " + k + ") of KIND " + kind, x.is(0, k), SlowWatch.BAD);
            }
        }
    }

    private static void isOfTheLastTest() {
        SlowWatch x = new SlowWatch();
        for (int t = 0; t < 8; t++) {
            Check.due(4, "is(" + t + ", 0), not there yet", x.is(t, 0), SlowWatch.BAD);
            x.test(0);
            Check.due(4, "is(" + t + ", 0)", x.is(t, 0), 1);
        }
        for (int t : new int[] {LEAST, -1, 8, MOST}) {
            Check.due(4, "is(" + t + ", 0)", x.is(t, 0), SlowWatch.BAD);
        }
    }

    /** "for each MACHINE 0 .. 3 a ROW". */
    private static void machinesFromNoughtToThree() {
        SlowWatch x = new SlowWatch();
        x.test(0);
        for (int m = 0; m <= 3; m++) {
            Check.due(5, "row(0, " + m + ")", x.row(0, m), 0);
            Check.due(5, "count(2)", x.count(2), m + 1);
        }
        for (int m : new int[] {LEAST, -1, 4, MOST}) {
            Check.due(5, "row(0, " + m + ")", x.row(0, m), SlowWatch.BAD);
        }
        Check.due(5, "count(2)", x.count(2), 4);
    }

    /** "is there, without measurements". */
    private static void rowIsThereWithoutMeasurements() {
        SlowWatch x = Twins.full();
        Check.due(5, "row(7, 3) with 40 measurements", x.row(7, 3), 1);
        for (int b = 0; b < 40; b++) {
            Check.due(5, "at(7, 3, " + b + ") after it", x.at(7, 3, b), N);
        }
        Check.due(5, "mean after it", x.mean(7, 3), SlowWatch.FINDING);
        Check.due(5, "finding(): none is left", x.finding(), 4);
        Check.due(5, "count(2)", x.count(2), 32);
    }

    /** "1 if it was there, else 0". */
    private static void rowTellsWhetherItWasThere() {
        SlowWatch x = new SlowWatch();
        x.test(1);
        Check.due(5, "row(0, 2), missing at first", x.row(0, 2), 0);
        Check.due(5, "row(0, 2), there without measurements", x.row(0, 2), 1);
        x.lay(0, 2, 0, 0);
        Check.due(5, "row(0, 2), there with one", x.row(0, 2), 1);
        x.tear(0, 2);
        Check.due(5, "row(0, 2), torn", x.row(0, 2), 0);
    }

    private static void rowsOfOthersStay() {
        SlowWatch x = Twins.full();
        x.row(3, 1);
        Check.due(5, "at(3, 0, 39): another MACHINE's", x.at(3, 0, 39), MILLION);
        Check.due(5, "at(3, 2, 39): another MACHINE's", x.at(3, 2, 39), MILLION);
        Check.due(5, "at(2, 1, 0): another TEST's", x.at(2, 1, 0), 2000);
        Check.due(5, "at(4, 1, 0): another TEST's", x.at(4, 1, 0), 4000);
    }

    /** "measurements .. (0 .. 1000000, or none)". */
    private static void measurementsUpToAMillion() {
        for (int v : new int[] {0, 1, MILLION - 1, MILLION, N}) {
            SlowWatch x = Check.withRow(1, 0);
            Check.due(6, "lay of " + v, x.lay(0, 0, 0, v), N);
            Check.due(6, "at after it", x.at(0, 0, 0), v);
        }
        for (int v : new int[] {LEAST, -MILLION, -10, -8, -1, MILLION + 1, MOST}) {
            SlowWatch x = Check.withRow(1, 0, 3);
            Check.due(6, "lay of " + v, x.lay(0, 0, 0, v), SlowWatch.BAD);
            Check.due(6, "at after it", x.at(0, 0, 0), 3);
        }
    }

    /** "(NONE: none)". */
    private static void noneTakesAMeasurementAway() {
        SlowWatch x = Check.withRow(3, 0, 4, 5, 6);
        Check.due(6, "lay of NONE", x.lay(0, 0, 1, N), 5);
        Check.due(6, "lay of NONE again", x.lay(0, 0, 1, N), N);
        Check.due(6, "mean without it", x.mean(0, 0), 5);
        Check.due(6, "rank without it", x.rank(0, 0, 2), 3);
        Check.due(6, "rank of it", x.rank(0, 0, 1), SlowWatch.FINDING);
        Check.due(6, "finding()", x.finding(), 4);
    }

    /** Only -9 is NONE: its neighbours are BAD. */
    private static void onlyMinusNineIsNone() {
        SlowWatch x = Check.withRow(1, 0, 4);
        for (int v = -20; v < 0; v++) {
            if (v != N) {
                Check.due(6, "lay of " + v, x.lay(0, 0, 0, v), SlowWatch.BAD);
            }
        }
        Check.due(6, "at", x.at(0, 0, 0), 4);
    }

    /** "a BUILD (0 .. 39 ..)", "BEYOND". */
    private static void layOnEachPlace() {
        SlowWatch x = Check.withRow(40, 0);
        for (int b = 0; b < 40; b++) {
            Check.due(6, "lay on " + b, x.lay(0, 0, b, b), N);
        }
        for (int b : new int[] {LEAST, -40, -1, 40, 41, MOST}) {
            Check.due(6, "lay on " + b, x.lay(0, 0, b, 5), SlowWatch.FINDING);
            Check.due(6, "finding()", x.finding(), 2);
        }
        for (int b = 0; b < 40; b++) {
            Check.due(7, "at " + b, x.at(0, 0, b), b);
        }
    }

    /** "there or not": a place may be laid ahead of its BUILD. */
    private static void layThereOrNot() {
        for (int builds : new int[] {0, 1, 20, 39, 40}) {
            SlowWatch x = Check.withRow(builds, 0);
            Check.due(6, "lay on 39 of " + builds, x.lay(0, 0, 39, 8), N);
            Check.due(6, "lay on 39 of " + builds + " again", x.lay(0, 0, 39, 9), 8);
            Check.due(6, "at 39 of " + builds, x.at(0, 0, 39), 9);
            Check.due(6, "lay on 40 of " + builds, x.lay(0, 0, 40, 9), SlowWatch.FINDING);
        }
    }

    /** "what it was (NONE)". */
    private static void layTellsWhatItWas() {
        SlowWatch x = Check.withRow(1, 0);
        int[] laid = {0, MILLION, N, N, 5, 5, 0, N};
        int was = N;
        for (int v : laid) {
            Check.due(6, "lay of " + v, x.lay(0, 0, 0, v), was);
            was = v;
        }
    }

    private static void atOnEachPlace() {
        SlowWatch x = Check.withRow(3, 0);
        for (int b = 0; b < 40; b++) {
            Check.due(7, "at " + b + " of no measurements", x.at(0, 0, b), N);
        }
        for (int b : new int[] {LEAST, -9, -1, 40, 41, MOST}) {
            Check.due(7, "at " + b, x.at(0, 0, b), SlowWatch.FINDING);
            Check.due(7, "finding()", x.finding(), 2);
        }
        Check.due(7, "findings(2)", x.findings(2), 6);
    }

    private static void tearTakesAllAway() {
        SlowWatch x = Twins.full();
        Check.due(8, "tear(7, 3)", x.tear(7, 3), 1);
        Check.due(8, "count(2)", x.count(2), 31);
        Check.due(8, "at(7, 3, 0)", x.at(7, 3, 0), SlowWatch.FINDING);
        Check.due(8, "finding()", x.finding(), 1);
        Check.due(8, "at(7, 2, 39): another one's", x.at(7, 2, 39), MILLION);
        Check.due(8, "at(6, 3, 39): another one's", x.at(6, 3, 39), MILLION);
    }

    private static void tearTwice() {
        SlowWatch x = Check.withRow(1, 0, 4);
        Check.due(8, "tear", x.tear(0, 0), 1);
        Check.due(8, "tear again", x.tear(0, 0), SlowWatch.FINDING);
        Check.due(8, "findings(1)", x.findings(1), 1);
        Check.due(8, "tear of one never there", x.tear(0, 3), SlowWatch.FINDING);
        Check.due(8, "findings(1)", x.findings(1), 2);
        Check.due(8, "count(2)", x.count(2), 0);
    }

    /** What was torn does not come back. */
    private static void tearAndMakeAgain() {
        SlowWatch x = Check.withRow(40, 0, 4, 5, 6);
        x.lay(0, 0, 39, 9);
        x.tear(0, 0);
        x.row(0, 0);
        for (int b = 0; b < 40; b++) {
            Check.due(8, "at " + b + " after it", x.at(0, 0, b), N);
        }
    }

    /** "n below 0" is SIZE: 0 is not, and changes nothing, up to the place behind the last one. */
    private static void copyOfNone() {
        for (int[] ij : new int[][] {{0, 0}, {40, 0}, {0, 40}, {40, 40}, {39, 40}}) {
            Twins.leave(9, "copy of none from " + ij[0] + " to " + ij[1], Twins::rich,
                x -> x.copy(0, 0, ij[0], 1, ij[1], 0), 1);
        }
        for (int[] ij : new int[][] {{41, 0}, {0, 41}, {-1, 0}, {0, -1}, {MOST, 0}, {0, MOST}, {LEAST, 0}, {0, LEAST}}) {
            Twins.find(9, "copy of none from " + ij[0] + " to " + ij[1], Twins::rich,
                x -> x.copy(0, 0, ij[0], 1, ij[1], 0), 2);
        }
    }

    private static void copyOfAll() {
        SlowWatch x = Twins.full();
        x.row(5, 3);
        Check.due(9, "copy of 40", x.copy(5, 0, 0, 3, 0, 40), 1);
        for (int b = 0; b < 40; b++) {
            Check.due(9, "at(5, 3, " + b + ")", x.at(5, 3, b), x.at(5, 0, b));
        }
    }

    /** "BEYOND: not so many there", on either side. */
    private static void copyNotSoManyThere() {
        for (int i = 0; i < 40; i++) {
            int from = i;
            int fits = 40 - i;
            Twins.find(9, "copy of " + (fits + 1) + " from " + i, Twins::rich, x -> x.copy(0, 0, from, 1, 0, fits + 1), 2);
            Twins.find(9, "copy of " + (fits + 1) + " to " + i, Twins::rich, x -> x.copy(0, 0, 0, 1, from, fits + 1), 2);
            SlowWatch x = Twins.rich();
            Check.due(9, "copy of " + fits + " from " + i, x.copy(0, 0, i, 1, 0, fits), 1);
            Check.due(9, "copy of " + fits + " to " + i, x.copy(0, 0, 0, 1, i, fits), 1);
            Check.due(9, "at(0, 1, " + i + ") after it", x.at(0, 1, i), 10);
        }
        Twins.find(9, "copy of 1 from 40", Twins::rich, x -> x.copy(0, 0, 40, 1, 0, 1), 2);
        Twins.find(9, "copy of 1 to 40", Twins::rich, x -> x.copy(0, 0, 0, 1, 40, 1), 2);
        Twins.find(9, "copy of 1 from -1", Twins::rich, x -> x.copy(0, 0, -1, 1, 0, 1), 2);
        Twins.find(9, "copy of 1 to -1", Twins::rich, x -> x.copy(0, 0, 0, 1, -1, 1), 2);
    }

    /** A place and a number of places whose sum is no int. */
    private static void copyWrapsNowhere() {
        int[][] beyond = {{1, 0, MOST}, {0, 1, MOST}, {MOST, 0, 1}, {0, MOST, 1}, {MOST, MOST, MOST}, {LEAST, 0, MOST},
            {0, LEAST, MOST}, {LEAST, LEAST, 1}, {40, 40, MOST - 39}, {MOST - 39, 0, 40}, {0, MOST - 39, 40}, {-40, -40, 80}};
        for (int[] b : beyond) {
            Twins.find(9, "copy of " + b[2] + " from " + b[0] + " to " + b[1], Twins::rich,
                x -> x.copy(0, 0, b[0], 1, b[1], b[2]), 2);
        }
    }

    /** Places are there whether their BUILDS are or not. */
    private static void copyOfLaterPlaces() {
        SlowWatch x = Check.withRow(1, 0, 7);
        x.lay(0, 0, 39, 8);
        x.row(0, 1);
        Check.due(9, "copy to 39", x.copy(0, 0, 0, 1, 39, 1), 1);
        Check.due(9, "copy from 39", x.copy(0, 0, 39, 1, 0, 1), 1);
        Check.due(9, "at(0, 1, 39)", x.at(0, 1, 39), 7);
        Check.due(9, "at(0, 1, 0)", x.at(0, 1, 0), 8);
    }

    /** "(perhaps its own)", "as if taken ahead". */
    private static void copyAsIfTakenAhead() {
        for (int shift = -2; shift <= 2; shift++) {
            SlowWatch x = Check.withRow(0, 0);
            for (int b = 0; b < 40; b++) {
                x.lay(0, 0, b, b);
            }
            int i = Math.max(0, -shift);
            int n = 40 - Math.abs(shift);
            Check.due(9, "copy onto itself by " + shift, x.copy(0, 0, i, 0, i + shift, n), 1);
            for (int b = 0; b < 40; b++) {
                boolean came = b >= i + shift && b < i + shift + n;
                Check.due(9, "at " + b + " after a shift by " + shift, x.at(0, 0, b), came ? b - shift : b);
            }
        }
    }

    private static void copyTakesNoneAlong() {
        SlowWatch x = Check.withRow(4, 0, N, 5, N, 6);
        x.row(0, 3);
        Check.layAll(x, 0, 3, 1, 2, 3, 4);
        Check.due(9, "copy of 3", x.copy(0, 0, 0, 3, 0, 3), 1);
        int[] want = {N, 5, N, 4};
        for (int b = 0; b < 4; b++) {
            Check.due(9, "at(0, 3, " + b + ")", x.at(0, 3, b), want[b]);
            Check.due(9, "at(0, 0, " + b + ") stays", x.at(0, 0, b), b == 1 ? 5 : b == 3 ? 6 : N);
        }
    }

    /** "twice how many that count are less, and how many are alike (itself, too)". */
    private static void rankAlone() {
        for (int v : new int[] {0, 1, MILLION}) {
            Check.due(10, "rank of a single " + v, Check.withRow(1, 0, v).rank(0, 0, 0), 1);
        }
    }

    private static void rankOfAllAlike() {
        for (int n : new int[] {1, 2, 39, 40}) {
            SlowWatch x = Check.withRow(n, 0);
            for (int b = 0; b < 40; b++) {
                x.lay(0, 0, b, 0);
            }
            Check.due(10, "rank of one of " + n + " alike", x.rank(0, 0, n - 1), n);
        }
    }

    private static void rankOfFortyInOrder() {
        SlowWatch x = Check.withRow(40, 0);
        for (int b = 0; b < 40; b++) {
            x.lay(0, 0, b, MILLION - b);
        }
        for (int b = 0; b < 40; b++) {
            Check.due(10, "rank of " + b, x.rank(0, 0, b), 79 - 2 * b);
        }
    }

    private static void rankOfTheGreatestAndLeastMeasurement() {
        SlowWatch x = Check.withRow(5, 0, MILLION, 0, MILLION, 0, 1);
        int[] want = {8, 2, 8, 2, 5};
        for (int b = 0; b < 5; b++) {
            Check.due(10, "rank of " + b, x.rank(0, 0, b), want[b]);
        }
    }

    /** "BEYOND: no BUILD": the last one that there is, and the first one that there is not. */
    private static void rankOfTheLastBuild() {
        for (int n = 1; n <= 40; n++) {
            SlowWatch x = Check.withRow(n, 0);
            for (int b = 0; b < 40; b++) {
                x.lay(0, 0, b, b);
            }
            Check.due(10, "rank of " + (n - 1) + " of " + n, x.rank(0, 0, n - 1), 2 * n - 1);
            Check.due(10, "rank of " + n + " of " + n, x.rank(0, 0, n), SlowWatch.FINDING);
            Check.due(10, "finding()", x.finding(), 2);
        }
    }

    /** "what was laid for later ones counts once these are there". */
    private static void rankCountsOnlyBuildsThere() {
        SlowWatch x = Check.withRow(1, 0, 5, 4, 5, 6);
        int[] want = {1, 3, 4, 4};
        for (int n = 1; n <= 4; n++) {
            x.builds(n);
            Check.due(10, "rank of 0 of " + n, x.rank(0, 0, 0), want[n - 1]);
        }
    }

    /** "by how many, cut". */
    private static void meanIsCut() {
        Check.due(11, "mean of 0 and 1", Check.withRow(2, 0, 0, 1).mean(0, 0), 0);
        Check.due(11, "mean of 1, 1, 0", Check.withRow(3, 0, 1, 1, 0).mean(0, 0), 0);
        Check.due(11, "mean of 1 and 2", Check.withRow(2, 0, 1, 2).mean(0, 0), 1);
        Check.due(11, "mean of 2, 2, 1", Check.withRow(3, 0, 2, 2, 1).mean(0, 0), 1);
        Check.due(11, "mean of 999999 and 1000000", Check.withRow(2, 0, 999999, MILLION).mean(0, 0), 999999);
    }

    private static void meanOfNoughts() {
        Check.due(11, "mean of 0", Check.withRow(1, 0, 0).mean(0, 0), 0);
        Check.due(11, "mean of 0, none, 0", Check.withRow(3, 0, 0, N, 0).mean(0, 0), 0);
        Check.due(11, "mean of none, 6", Check.withRow(2, 0, N, 6).mean(0, 0), 6);
    }

    private static void meanOfTheGreatest() {
        SlowWatch x = Check.withRow(40, 0);
        for (int b = 0; b < 40; b++) {
            x.lay(0, 0, b, MILLION);
        }
        Check.due(11, "mean of forty of the greatest", x.mean(0, 0), MILLION);
        x.lay(0, 0, 39, MILLION - 1);
        Check.due(11, "mean of them but for one", x.mean(0, 0), MILLION - 1);
    }

    /** "all measurements of a ROW that count"; "NOUGHT". */
    private static void meanCountsOnlyBuildsThere() {
        SlowWatch x = Check.withRow(0, 0, N, 8, 2);
        int[] want = {SlowWatch.FINDING, SlowWatch.FINDING, 8, 5, 5};
        for (int n = 0; n <= 4; n++) {
            x.builds(n);
            Check.due(11, "mean of " + n, x.mean(0, 0), want[n]);
        }
        Check.due(11, "findings(4)", x.findings(4), 2);
        x.lay(0, 0, 1, N);
        x.lay(0, 0, 2, N);
        x.lay(0, 0, 4, 3);
        Check.due(11, "mean of one laid for a later BUILD", x.mean(0, 0), SlowWatch.FINDING);
        Check.due(11, "findings(4)", x.findings(4), 3);
    }
}

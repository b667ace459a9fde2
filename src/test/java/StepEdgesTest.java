/** The boundary cases of the Terms' third part and of promises 17 to 22: a method for each sentence. */
public final class StepEdgesTest {
    private static final int N = SlowWatch.NONE;
    private static final int LEAST = Integer.MIN_VALUE;
    private static final int MOST = Integer.MAX_VALUE;
    private static final int MILLION = 1000000;

    public static void main(String[] args) {
        reachFromNoughtToFive();
        reachIsOneAtFirst();
        reachTellsWhatItWas();
        ownAtEachDistance();
        ownAtTheFirstAndLastCut();
        ownTheSameWayAlone();
        sharedIfNoOtherMachine();
        sharedIfNoOtherCouldShowIt();
        ownIfOneIsMeasuredOnBothSides();
        sharedIfTwoAreMeasuredOnOneSideEach();
        ownOfEachMachine();
        ownByThoseThatCount();
        ownBesideTheMostSteps();
        ownBesideAStepThatIsGone();
        ownNoneSuch();
        undoneByATenth();
        undoneByATenthOfTheGreatest();
        undoneBehindItAlone();
        undoneByTheFirstNotPairedYet();
        undoneOfAStepDown();
        undoneNoneSuch();
        undoneOfMost();
        oddsOfTwo();
        oddsUpToTwenty();
        oddsOfOneBehindAndOneAhead();
        oddsInLowestTerms();
        oddsOfStepsDown();
        oddsOfLaterCuts();
        oddsAsGreatOrGreater();
        oddsByRanksOfTheWholeRow();
        oddsNoneSuch();
        crySizesThatAreTaken();
        cryOddsThatAreTaken();
        crySizeAndMore();
        cryOddsNotAbove();
        cryOddsOfTwentyDoNotWrap();
        cryAboveTwentyCountsAsNone();
        cryNoStepDown();
        cryNothingThere();
        cryAllButQuietOnes();
        cryNotItsOwn();
        cryNotTheUndone();
        cryTheSameOnce();
        cryNoRowThatIsMissing();
        cryTellsTheFirst();
        cryTheGreatestNumber();
        cryByThoseThatCount();
        criedBeforeAny();
        criedNoneSuch();
        criedThreeHundredAreKept();
        Check.end();
    }

    private static SlowWatch withTest(int builds, int kind, int price) {
        SlowWatch x = new SlowWatch();
        x.builds(builds);
        x.test(kind);
        x.price(price);
        return x;
    }

    private static void levels(SlowWatch x, int test, int machine, int builds, int from, int to, int cut) {
        x.row(test, machine);
        for (int b = 0; b < builds; b++) {
            x.lay(test, machine, b, b < cut ? from : to);
        }
    }

    private static SlowWatch oneStep(int builds, int from, int to, int cut) {
        SlowWatch x = withTest(builds, 0, 0);
        levels(x, 0, 0, builds, from, to, cut);
        return x;
    }

    /** "REACH (0 .. 5 ..)". */
    private static void reachFromNoughtToFive() {
        for (int r = 0; r <= 5; r++) {
            SlowWatch x = new SlowWatch();
            Check.due(17, "reach(" + r + ")", x.reach(r), 1);
            Check.due(17, "reach(2) after it", x.reach(2), r);
        }
        for (int r : new int[] {LEAST, -5, -1, 6, 40, MOST}) {
            SlowWatch x = new SlowWatch();
            Check.due(17, "reach(" + r + ")", x.reach(r), SlowWatch.BAD);
            Check.due(17, "reach(2) after it", x.reach(2), 1);
        }
    }

    /** "1 at first": a step one BUILD away is the same one, two BUILDS away another. */
    private static void reachIsOneAtFirst() {
        int[] want = {1, 0, 0, 0, 1};
        for (int d = -2; d <= 2; d++) {
            SlowWatch x = oneStep(10, 5, 9, 5);
            levels(x, 0, 1, 10, 5, 9, 5 + d);
            Check.due(17, "own beside one " + d + " away", x.own(0, 0, 0), want[d + 2]);
        }
    }

    private static void reachTellsWhatItWas() {
        SlowWatch x = new SlowWatch();
        int was = 1;
        for (int r : new int[] {1, 5, 5, 0, 0, 3}) {
            Check.due(17, "reach(" + r + ")", x.reach(r), was);
            was = r;
        }
    }

    /** "at a CUT at most REACH BUILDS away", to either side. */
    private static void ownAtEachDistance() {
        for (int d = -6; d <= 6; d++) {
            SlowWatch x = oneStep(20, 5, 9, 10);
            levels(x, 0, 1, 20, 5, 9, 10 + d);
            for (int r = 0; r <= 5; r++) {
                x.reach(r);
                int want = Math.abs(d) <= r ? 0 : 1;
                Check.due(18, "own beside one " + d + " away, reach " + r, x.own(0, 0, 0), want);
                Check.due(18, "that one's own, reach " + r, x.own(0, 1, 0), want);
            }
        }
    }

    private static void ownAtTheFirstAndLastCut() {
        for (int cut : new int[] {1, 39}) {
            SlowWatch x = oneStep(40, 5, 9, cut);
            levels(x, 0, 3, 40, 5, 9, 40 - cut);
            x.reach(5);
            Check.due(18, "own at " + cut, x.own(0, 0, 0), 1);
            levels(x, 0, 3, 40, 9, 10, cut);
            x.reach(0);
            Check.due(18, "shared at " + cut, x.own(0, 0, 0), 0);
        }
    }

    /** "a STEP the same way (up, down ..)". */
    private static void ownTheSameWayAlone() {
        int[][] ways = {{1, 2, 1, 2, 0}, {1, 2, 2, 1, 1}, {2, 1, 1, 2, 1}, {2, 1, 2, 1, 0}, {0, MILLION, 0, 1, 0}, {MILLION, 0, 0, 1, 1}};
        for (int[] w : ways) {
            SlowWatch x = oneStep(10, w[0], w[1], 5);
            levels(x, 0, 2, 10, w[2], w[3], 5);
            Check.due(18, "own of " + w[0] + " to " + w[1] + " beside " + w[2] + " to " + w[3], x.own(0, 0, 0), w[4]);
        }
    }

    /** "(also if no other MACHINE could show it)". */
    private static void sharedIfNoOtherMachine() {
        SlowWatch x = oneStep(10, 5, 9, 5);
        Check.due(18, "own without another ROW", x.own(0, 0, 0), 0);
        x.test(0);
        levels(x, 1, 1, 10, 5, 5, 5);
        Check.due(18, "own beside another TEST's flat ROW", x.own(0, 0, 0), 0);
        levels(x, 0, 1, 10, 5, 5, 5);
        Check.due(18, "own beside a flat ROW", x.own(0, 0, 0), 1);
        x.tear(0, 1);
        Check.due(18, "own beside a ROW that was torn", x.own(0, 0, 0), 0);
    }

    private static void sharedIfNoOtherCouldShowIt() {
        int[][] measured = {{}, {0}, {4}, {5}, {6}, {9}, {0, 1, 2, 3, 4}, {0, 3}, {5, 6, 7, 8, 9}, {6, 9}};
        for (int[] places : measured) {
            SlowWatch x = oneStep(10, 5, 9, 5);
            x.row(0, 1);
            for (int b : places) {
                x.lay(0, 1, b, 7);
            }
            Check.due(18, "own beside " + java.util.Arrays.toString(places), x.own(0, 0, 0), 0);
        }
    }

    /** "a MEASURED BUILD ahead of the CUT and one from it on": the CUT's own BUILD is the first of the latter. */
    private static void ownIfOneIsMeasuredOnBothSides() {
        int[][] measured = {{4, 5}, {0, 9}, {0, 5}, {4, 9}};
        for (int[] places : measured) {
            SlowWatch x = oneStep(10, 5, 9, 5);
            x.row(0, 1);
            for (int b : places) {
                x.lay(0, 1, b, 7);
            }
            Check.due(18, "own beside " + java.util.Arrays.toString(places), x.own(0, 0, 0), 1);
        }
    }

    private static void sharedIfTwoAreMeasuredOnOneSideEach() {
        SlowWatch x = oneStep(10, 5, 9, 5);
        x.row(0, 1);
        x.row(0, 2);
        x.row(0, 3);
        x.lay(0, 1, 4, 7);
        x.lay(0, 2, 5, 7);
        Check.due(18, "own beside one ahead and another behind", x.own(0, 0, 0), 0);
        x.lay(0, 3, 4, 7);
        x.lay(0, 3, 5, 7);
        Check.due(18, "own beside a third on both sides", x.own(0, 0, 0), 1);
    }

    private static void ownOfEachMachine() {
        for (int m = 0; m < 4; m++) {
            for (int o = 0; o < 4; o++) {
                if (m == o) {
                    continue;
                }
                SlowWatch x = withTest(4, 2, 0);
                levels(x, 0, m, 4, 1, 2, 2);
                levels(x, 0, o, 4, 1, 1, 2);
                Check.due(18, "own of " + m + " beside a flat " + o, x.own(0, m, 0), 1);
                levels(x, 0, o, 4, 1, 2, 2);
                Check.due(18, "own of " + m + " beside a like " + o, x.own(0, m, 0), 0);
            }
        }
    }

    /** What was laid for later BUILDS shows nothing yet. */
    private static void ownByThoseThatCount() {
        SlowWatch x = oneStep(3, 1, 2, 2);
        x.row(0, 1);
        x.lay(0, 1, 1, 5);
        x.lay(0, 1, 3, 5);
        Check.due(18, "own, the other's later one does not count", x.own(0, 0, 0), 0);
        x.builds(4);
        Check.due(18, "own, now it counts", x.own(0, 0, 0), 1);
        x.lay(0, 1, 3, 6);
        Check.due(18, "own, now it is a step", x.own(0, 0, 0), 0);
        x.reach(0);
        Check.due(18, "own, reach 0", x.own(0, 0, 0), 1);
    }

    private static void ownBesideTheMostSteps() {
        SlowWatch x = oneStep(40, 5, 9, 39);
        x.row(0, 1);
        for (int b = 0; b < 40; b++) {
            x.lay(0, 1, b, 100 - b);
        }
        x.reach(5);
        Check.due(18, "own beside 39 steps down", x.own(0, 0, 0), 1);
        for (int b = 0; b < 40; b++) {
            x.lay(0, 1, b, b);
        }
        x.reach(0);
        Check.due(18, "own beside 39 steps up", x.own(0, 0, 0), 0);
        Check.due(18, "the last of them", x.own(0, 1, 38), 0);
        Check.due(18, "the one ahead of it", x.own(0, 1, 37), 1);
    }

    private static void ownBesideAStepThatIsGone() {
        SlowWatch x = oneStep(4, 1, 2, 2);
        levels(x, 0, 1, 4, 5, 6, 2);
        Check.due(18, "own beside a like step", x.own(0, 0, 0), 0);
        for (int b = 0; b < 4; b++) {
            x.lay(0, 1, b, 5);
        }
        Check.due(18, "own, it was laid over", x.own(0, 0, 0), 1);
        x.lay(0, 1, 2, 6);
        x.lay(0, 1, 3, 6);
        Check.due(18, "own, it is there again", x.own(0, 0, 0), 0);
        x.lay(0, 1, 2, N);
        x.lay(0, 1, 3, N);
        Check.due(18, "shared, since none could show it", x.own(0, 0, 0), 0);
        x.row(0, 1);
        x.row(0, 2);
        x.lay(0, 2, 0, 3);
        x.lay(0, 2, 3, 3);
        Check.due(18, "own, the other ROW is without measurements", x.own(0, 0, 0), 1);
    }

    private static void ownNoneSuch() {
        SlowWatch x = oneStep(4, 1, 2, 2);
        levels(x, 0, 1, 4, 1, 1, 2);
        Check.due(18, "own 0", x.own(0, 0, 0), 1);
        for (int i : new int[] {LEAST, -9, -1, 1, 2, 39, 40, MOST}) {
            Check.due(18, "own " + i, x.own(0, 0, i), N);
        }
        Check.due(18, "own 0 of a flat ROW", x.own(0, 1, 0), N);
    }

    private static SlowWatch upAndDown(int base, int up, int down) {
        SlowWatch x = withTest(3, 1, 0);
        x.row(0, 0);
        Check.layAll(x, 0, 0, base, base + up, base + up - down);
        return x;
    }

    /** "10 times how much they differ, without signs, is the up one's SIZE at most". */
    private static void undoneByATenth() {
        int[][] cases = {{1, 1, 1}, {1, 2, N}, {9, 8, N}, {9, 9, 1}, {9, 10, N}, {10, 8, N}, {10, 9, 1}, {10, 10, 1}, {10, 11, 1},
            {10, 12, N}, {19, 17, N}, {19, 18, 1}, {19, 20, 1}, {19, 21, N}, {20, 18, 1}, {20, 22, 1}, {20, 17, N}, {20, 23, N},
            {11, 10, 1}, {9, 1, N}};
        for (int[] c : cases) {
            SlowWatch x = upAndDown(500, c[0], c[1]);
            Check.due(19, "undone of " + c[0] + " by " + c[1], x.undone(0, 0, 0), c[2]);
        }
    }

    private static void undoneByATenthOfTheGreatest() {
        Check.due(19, "a million by a million", upAndDown(0, MILLION, MILLION).undone(0, 0, 0), 1);
        Check.due(19, "a million by 900000", upAndDown(0, MILLION, 900000).undone(0, 0, 0), 1);
        Check.due(19, "a million by 899999", upAndDown(0, MILLION, 899999).undone(0, 0, 0), N);
        Check.due(19, "a million by 1", upAndDown(0, MILLION, 1).undone(0, 0, 0), N);
        Check.due(19, "909090 by 999999", upAndDown(90910, 909090, 999999).undone(0, 0, 0), 1);
        Check.due(19, "909090 by a million", upAndDown(90910, 909090, MILLION).undone(0, 0, 0), N);
        Check.due(19, "1 by a million", upAndDown(MILLION - 1, 1, MILLION).undone(0, 0, 0), N);
    }

    /** "the first STEP down behind it". */
    private static void undoneBehindItAlone() {
        SlowWatch x = withTest(3, 1, 0);
        x.row(0, 0);
        Check.layAll(x, 0, 0, 9, 5, 9);
        Check.due(19, "undone of a step up behind its like down", x.undone(0, 0, 1), N);
        x.builds(4);
        x.lay(0, 0, 3, 5);
        Check.due(19, "undone by the one behind it", x.undone(0, 0, 1), 2);
    }

    /** "that is not PAIRED yet": each step up, by CUTS, takes one. */
    private static void undoneByTheFirstNotPairedYet() {
        SlowWatch x = withTest(6, 1, 0);
        x.row(0, 0);
        Check.layAll(x, 0, 0, 0, 100, 200, 100, 50, 10);
        // up 100, up 100, down 100, down 50, down 40
        Check.due(19, "the first takes it", x.undone(0, 0, 0), 2);
        Check.due(19, "none is left for the second", x.undone(0, 0, 1), N);
        x.builds(8);
        x.lay(0, 0, 6, 200);
        x.lay(0, 0, 7, 109);
        // and up 190, down 91
        Check.due(19, "a later one for the second", x.undone(0, 0, 1), 6);
        Check.due(19, "none for the third", x.undone(0, 0, 5), N);
    }

    private static void undoneOfAStepDown() {
        SlowWatch x = upAndDown(5, 10, 10);
        Check.due(19, "undone of the step up", x.undone(0, 0, 0), 1);
        Check.due(19, "undone of the step down", x.undone(0, 0, 1), N);
    }

    private static void undoneNoneSuch() {
        SlowWatch x = upAndDown(5, 10, 10);
        for (int i : new int[] {LEAST, -9, -1, 2, 3, 39, 40, MOST}) {
            Check.due(19, "undone " + i, x.undone(0, 0, i), N);
        }
        x.row(0, 1);
        Check.due(19, "undone 0 of no measurements", x.undone(0, 1, 0), N);
    }

    private static void undoneOfMost() {
        SlowWatch x = withTest(40, 1, 0);
        x.row(0, 3);
        for (int b = 0; b < 40; b++) {
            x.lay(0, 3, b, b % 2 == 0 ? 0 : 7);
        }
        for (int i = 0; i < 40; i++) {
            Check.due(19, "undone " + i, x.undone(0, 3, i), i % 2 == 0 && i < 38 ? i + 1 : N);
        }
    }

    private static void oddsAre(SlowWatch x, String of, int i, long upper, long lower) {
        Check.due(20, "odds of " + of, x.odds(0, 0, i), 1);
        Check.due(28, "upper() of " + of, x.upper(), upper);
        Check.due(29, "lower() of " + of, x.lower(), lower);
    }

    private static void oddsOfTwo() {
        oddsAre(oneStep(2, 0, MILLION, 1), "one and one", 0, 1, 2);
        oddsAre(oneStep(2, MILLION, 0, 1), "one and one, down", 0, 1, 2);
    }

    /** "Only with n up to 20", "0: n is above 20". */
    private static void oddsUpToTwenty() {
        int[] ways = {0, 20, 190, 1140, 4845, 15504, 38760, 77520, 125970, 167960, 184756};
        for (int cut = 1; cut < 20; cut++) {
            oddsAre(oneStep(20, 5, 9, cut), cut + " of 20 ahead", 0, 1, ways[Math.min(cut, 20 - cut)]);
            oddsAre(oneStep(20, 9, 5, cut), cut + " of 20 ahead, down", 0, 1, ways[Math.min(cut, 20 - cut)]);
        }
        for (int cut = 1; cut < 21; cut++) {
            SlowWatch x = oneStep(21, 5, 9, cut);
            Check.due(20, "odds of 21, " + cut + " ahead", x.odds(0, 0, 0), 0);
            Check.due(28, "upper() after it", x.upper(), 0);
            Check.due(29, "lower() after it", x.lower(), 1);
            x.lay(0, 0, 20, N);
            if (cut < 20) {
                oddsAre(x, "one taken away", 0, 1, ways[Math.min(cut, 20 - cut)]);
            }
        }
        Check.due(20, "odds of 40", oneStep(40, 5, 9, 20).odds(0, 0, 0), 0);
    }

    private static void oddsOfOneBehindAndOneAhead() {
        for (int n = 2; n <= 20; n++) {
            oddsAre(oneStep(n, 5, 9, n - 1), "one behind of " + n, 0, 1, n);
            oddsAre(oneStep(n, 5, 9, 1), "one ahead of " + n, 0, 1, n);
        }
    }

    private static SlowWatch priced(int price, int... values) {
        SlowWatch x = Check.withRow(values.length, 0, values);
        x.price(price);
        return x;
    }

    /** "(in lowest terms)". */
    private static void oddsInLowestTerms() {
        // RANKS 3 3 8 3 | 13 8 13 13: either of the 8s goes with the three 13s, 2 of 70
        SlowWatch x = priced(10, 1, 1, 5, 1, 9, 5, 9, 9);
        Check.due(14, "the cut of four and four", x.cut(0, 0, 0), 4);
        oddsAre(x, "four and four", 0, 1, 35);
        // RANKS 3 7 3 | 11 3 11 11: the 7 or any 3 goes with the three 11s, 4 of 35
        SlowWatch y = priced(10, 1, 5, 1, 9, 1, 9, 9);
        Check.due(14, "the cut of three and four", y.cut(0, 0, 0), 3);
        oddsAre(y, "three and four", 0, 4, 35);
        // RANKS 2 7 2 7 | 13 13 7 13 17: any of the 7s goes with the greater ones, 3 of 126
        SlowWatch z = priced(8, 1, 4, 1, 4, 5, 5, 4, 5, 6);
        Check.due(14, "the cut of four and five", z.cut(0, 0, 0), 4);
        oddsAre(z, "four and five", 0, 1, 42);
        // RANKS 2 11 2 6 | 11 6 11 15: 43 is one of two 6s with two of three 11s, 48 is all 11s: 7 of 70
        SlowWatch u = priced(5, 3, 5, 3, 4, 5, 4, 5, 7);
        Check.due(14, "the cut of four and four again", u.cut(0, 0, 0), 4);
        oddsAre(u, "four and four again", 0, 1, 10);
        // RANKS 13 4 13 13 13 | 4 4 13 4: all four 4s, or three of them and one of five 13s: 21 of 126
        SlowWatch v = priced(12, 5, 4, 5, 5, 5, 4, 4, 5, 4);
        Check.due(14, "the cut of five and four", v.cut(0, 0, 0), 5);
        oddsAre(v, "five and four, down", 0, 1, 6);
    }

    /** "(a STEP down: as small, or smaller)". */
    private static void oddsOfStepsDown() {
        oddsAre(priced(0, 9, 1, 1), "one and two, down", 0, 1, 3);
        SlowWatch x = priced(0, 4, 4, 9, 9, 1, 1);
        oddsAre(x, "two and two, up", 0, 1, 6);
        oddsAre(x, "two and two, down", 1, 1, 6);
        // The row of three and four once more, upside down.
        SlowWatch y = priced(10, 9, 5, 9, 1, 9, 1, 1);
        Check.due(14, "the cut of three and four, down", y.cut(0, 0, 0), 3);
        oddsAre(y, "three and four, down", 0, 4, 35);
    }

    /** "of the MEASURED BUILDS in the two SPANS beside it" alone, with fewer of them on either side. */
    private static void oddsOfLaterCuts() {
        SlowWatch x = priced(0, 1, 1, 1, 5, 5, 9, 9, 9, 9, 9, 2);
        oddsAre(x, "three and two", 0, 1, 10);
        oddsAre(x, "two and five", 1, 1, 21);
        oddsAre(x, "five and one, down", 2, 1, 6);
        SlowWatch y = withTest(40, 0, 0);
        y.row(0, 0);
        for (int b = 0; b < 40; b++) {
            y.lay(0, 0, b, b < 1 ? 1 : b < 3 ? 2 : b < 21 ? 3 : 4);
        }
        oddsAre(y, "one and two", 0, 1, 3);
        oddsAre(y, "two and eighteen", 1, 1, 190);
        Check.due(20, "odds of eighteen and nineteen", y.odds(0, 0, 2), 0);
        for (int b = 0; b < 40; b++) {
            y.lay(0, 0, b, b < 8 ? 1 : b < 10 ? 2 : b < 28 ? 3 : 4);
        }
        oddsAre(y, "eight and two", 0, 1, 45);
        oddsAre(y, "two and eighteen behind eight", 1, 1, 190);
        for (int b = 0; b < 40; b++) {
            y.lay(0, 0, b, b < 8 ? 1 : b < 26 ? 2 : b < 28 ? 3 : 4);
        }
        Check.due(20, "odds of eight and eighteen", y.odds(0, 0, 0), 0);
        oddsAre(y, "eighteen and two", 1, 1, 190);
        oddsAre(y, "two and twelve", 2, 1, 91);
    }

    /** A choice that is as great counts, one that is less by 1 does not. */
    private static void oddsAsGreatOrGreater() {
        // RANKS 4 11 4 1 | 8 8 13: 29 and more are 13 8 8 and twice 13 11 8; twice there is 28, of 13 11 4
        SlowWatch x = priced(5, 2, 4, 2, 1, 3, 3, 5);
        Check.due(14, "the cut", x.cut(0, 0, 0), 4);
        oddsAre(x, "sums that differ by 1", 0, 3, 35);
        SlowWatch y = priced(5, 4, 2, 4, 5, 3, 3, 1);
        Check.due(14, "the cut, down", y.cut(0, 0, 0), 4);
        oddsAre(y, "sums that differ by 1, down", 0, 3, 35);
    }

    /**
     * Twenty more between the levels make the RANKS 10, 40 and 70. Ten of them are behind the first cut: seven 70s and
     * three 10s. As great are all ways with seven 70s and more: 120 * 120 + 45 * 45 + 10 * 10 + 1 of 184756.
     */
    private static void oddsByRanksOfTheWholeRow() {
        int[] values = new int[40];
        for (int b = 0; b < 40; b++) {
            boolean odd = b % 10 == 3 || b % 10 == 5 || b % 10 == 7;
            values[b] = b >= 20 ? 50 : b < 10 == odd ? 100 : 0;
        }
        SlowWatch x = priced(100, values);
        Check.due(13, "cuts", x.cuts(0, 0), 2);
        Check.due(13, "asked()", x.asked(), 560);
        Check.due(14, "the first cut", x.cut(0, 0, 0), 10);
        oddsAre(x, "ten and ten with odd ones", 0, 8263, 92378);
        Check.due(20, "odds of ten and twenty", x.odds(0, 0, 1), 0);
    }

    private static void oddsNoneSuch() {
        SlowWatch x = oneStep(4, 1, 2, 2);
        oddsAre(x, "two and two", 0, 1, 6);
        for (int i : new int[] {LEAST, -9, -1, 1, 2, 39, 40, MOST}) {
            Check.due(20, "odds " + i, x.odds(0, 0, i), N);
            Check.due(28, "upper() after NONE", x.upper(), 1);
            Check.due(29, "lower() after NONE", x.lower(), 6);
        }
    }

    /** "BAD: s not 0 .. 1000000". */
    private static void crySizesThatAreTaken() {
        for (int s : new int[] {0, 1, MILLION - 1, MILLION}) {
            Check.due(21, "cry(" + s + ", 1, 2)", oneStep(2, 0, MILLION, 1).cry(s, 1, 2), 1);
        }
        for (int s : new int[] {LEAST, -MILLION, -1, MILLION + 1, MOST}) {
            SlowWatch x = oneStep(2, 0, MILLION, 1);
            Check.due(21, "cry(" + s + ", 1, 1)", x.cry(s, 1, 1), SlowWatch.BAD);
            Check.due(21, "count(3)", x.count(3), 0);
        }
    }

    /** "u below 0; l below 1; either above 1000000". */
    private static void cryOddsThatAreTaken() {
        int[][] taken = {{0, 1, 0}, {0, MILLION, 0}, {MILLION, 1, 1}, {MILLION, MILLION, 1}, {1, 1, 1}, {1, MILLION, 0}};
        for (int[] c : taken) {
            Check.due(21, "cry(0, " + c[0] + ", " + c[1] + ")", oneStep(2, 0, 1, 1).cry(0, c[0], c[1]), c[2]);
        }
        int[][] bad = {{-1, 1}, {LEAST, 1}, {MILLION + 1, 1}, {MOST, 1}, {1, 0}, {1, -1}, {1, LEAST}, {1, MILLION + 1}, {1, MOST},
            {-1, 0}, {0, 0}, {MOST, MOST}, {LEAST, LEAST}};
        for (int[] c : bad) {
            SlowWatch x = oneStep(2, 0, 1, 1);
            Check.due(21, "cry(0, " + c[0] + ", " + c[1] + ")", x.cry(0, c[0], c[1]), SlowWatch.BAD);
            Check.due(21, "count(3)", x.count(3), 0);
            Check.due(21, "it can still be cried", x.cry(0, 1, 1), 1);
        }
    }

    /** "with SIZE s and more". */
    private static void crySizeAndMore() {
        for (int size : new int[] {1, 10, MILLION - 1}) {
            SlowWatch x = oneStep(2, 0, size, 1);
            Check.due(21, "cry of " + size + ", s one more", x.cry(size + 1, 1, 1), 0);
            Check.due(21, "cry of " + size, x.cry(size, 1, 1), 1);
            Check.due(21, "cry of " + size + ", s one less", oneStep(2, 0, size, 1).cry(size - 1, 1, 1), 1);
        }
    }

    /** "ODDS .. not above u by l". */
    private static void cryOddsNotAbove() {
        int[][] above = {{1, 3}, {499999, MILLION}, {0, 1}, {333333, 666667}};
        int[][] notAbove = {{1, 2}, {500000, MILLION}, {2, 3}, {1, 1}, {333334, 666667}, {MILLION, 1}};
        for (int[] c : above) {
            SlowWatch x = oneStep(2, 0, 9, 1);
            Check.due(21, "cry of 1 by 2, not above " + c[0] + " by " + c[1], x.cry(0, c[0], c[1]), 0);
            Check.due(28, "upper(): cry leaves it", x.upper(), 0);
            Check.due(29, "lower(): cry leaves it", x.lower(), 1);
        }
        for (int[] c : notAbove) {
            SlowWatch x = oneStep(2, 0, 9, 1);
            Check.due(21, "cry of 1 by 2, not above " + c[0] + " by " + c[1], x.cry(0, c[0], c[1]), 1);
        }
    }

    /** 1 by 184756: products of what is asked and told are no ints. */
    private static void cryOddsOfTwentyDoNotWrap() {
        int[][] cases = {{1, 184756, 1}, {1, 184757, 0}, {5, 923780, 1}, {5, 923781, 0}, {5, MILLION, 0}, {6, MILLION, 1},
            {20000, 1, 1}, {11624, 1, 1}, {MILLION, 1, 1}, {MILLION, MILLION, 1}, {23247, MILLION, 1}, {0, MILLION, 0}};
        for (int[] c : cases) {
            SlowWatch x = oneStep(20, 5, 9, 10);
            Check.due(21, "cry of 1 by 184756, not above " + c[0] + " by " + c[1], x.cry(0, c[0], c[1]), c[2]);
        }
    }

    /** "(if n is up to 20; else it counts as none)". */
    private static void cryAboveTwentyCountsAsNone() {
        for (int cut : new int[] {1, 10, 20}) {
            SlowWatch x = oneStep(21, 5, 9, cut);
            Check.due(21, "cry(0, 0, 1000000) of 21, " + cut + " ahead", x.cry(0, 0, MILLION), 1);
            Check.due(21, "asked()", x.asked(), cut);
        }
        for (int cut : new int[] {1, 10, 19}) {
            SlowWatch x = oneStep(20, 5, 9, cut);
            Check.due(21, "cry(0, 0, 1000000) of 20, " + cut + " ahead", x.cry(0, 0, MILLION), 0);
        }
    }

    /** "a STEP up": none down, though s is 0. */
    private static void cryNoStepDown() {
        SlowWatch x = oneStep(4, 9, 5, 2);
        Check.due(21, "cry of a step down", x.cry(0, MILLION, 1), 0);
        SlowWatch y = oneStep(40, MILLION, 0, 20);
        Check.due(21, "cry of a step down of 40", y.cry(0, MILLION, 1), 0);
    }

    private static void cryNothingThere() {
        SlowWatch x = new SlowWatch();
        Check.due(21, "cry without TESTS", x.cry(0, MILLION, 1), 0);
        x.test(0);
        Check.due(21, "cry without ROWS", x.cry(0, MILLION, 1), 0);
        x.row(0, 0);
        x.price(0);
        Check.due(21, "cry without measurements", x.cry(0, MILLION, 1), 0);
        x.lay(0, 0, 0, 1);
        x.lay(0, 0, 1, 2);
        Check.due(21, "cry without BUILDS", x.cry(0, MILLION, 1), 0);
        x.builds(1);
        Check.due(21, "cry of one BUILD", x.cry(0, MILLION, 1), 0);
        Check.due(21, "asked(): none told anything", x.asked(), 0);
        Check.due(21, "count(3)", x.count(3), 0);
        x.builds(2);
        Check.due(21, "cry of two BUILDS", x.cry(0, MILLION, 1), 1);
    }

    /** "all TESTS but QUIET ones". */
    private static void cryAllButQuietOnes() {
        SlowWatch x = new SlowWatch();
        x.builds(2);
        x.price(0);
        for (int t = 0; t < 8; t++) {
            x.test(t % 3);
            levels(x, t, t % 4, 2, 1, 2, 1);
        }
        int[] want = {1, 1101, 3301, 4001, 6201, 7301};
        Check.due(21, "cry of eight TESTS", x.cry(0, 1, 1), want.length);
        for (int i = 0; i < want.length; i++) {
            Check.due(22, "cried(" + i + ")", x.cried(i), want[i]);
        }
        Check.due(22, "cried(" + want.length + ")", x.cried(want.length), N);
    }

    /** "SHARED". */
    private static void cryNotItsOwn() {
        SlowWatch x = oneStep(4, 1, 2, 2);
        levels(x, 0, 1, 4, 5, 5, 2);
        Check.due(21, "cry of its own step", x.cry(0, 1, 1), 0);
        levels(x, 0, 2, 4, 1, 2, 3);
        x.reach(0);
        Check.due(21, "cry of two, each its own", x.cry(0, 1, 1), 0);
        x.reach(1);
        Check.due(21, "cry of two that are shared", x.cry(0, 1, 1), 2);
        Check.due(21, "asked()", x.asked(), 2);
        Check.due(22, "cried(1)", x.cried(1), 203);
    }

    /** "not UNDONE": only steps of PAIRED TESTS are ever undone. */
    private static void cryNotTheUndone() {
        SlowWatch x = upAndDown(500, 10, 9);
        Check.due(21, "cry of 10 undone by 9", x.cry(0, 1, 1), 0);
        x.lay(0, 0, 2, 502);
        Check.due(21, "cry of 10, not undone by 8", x.cry(0, 1, 1), 1);
        SlowWatch y = withTest(3, 0, 0);
        y.row(0, 0);
        Check.layAll(y, 0, 0, 500, 510, 500);
        Check.due(21, "cry of a TEST that is not PAIRED", y.cry(0, 1, 1), 1);
    }

    /** "unless the same TEST, MACHINE and CUT was cried before". */
    private static void cryTheSameOnce() {
        SlowWatch x = oneStep(40, 1, 2, 39);
        Check.due(21, "cry", x.cry(0, 1, 1), 1);
        Check.due(21, "cry again", x.cry(0, 1, 1), 0);
        x.tear(0, 0);
        levels(x, 0, 0, 40, 5, 500, 39);
        Check.due(21, "cry, torn and laid again", x.cry(0, 1, 1), 0);
        x.row(0, 0);
        x.lay(0, 0, 0, 1);
        x.lay(0, 0, 1, 2);
        x.lay(0, 0, 39, 3);
        Check.due(21, "cry of another CUT", x.cry(0, 1, 1), 1);
        Check.due(21, "asked()", x.asked(), 1);
        x.row(0, 1);
        x.copy(0, 0, 0, 1, 0, 40);
        Check.due(21, "cry of another MACHINE", x.cry(0, 1, 1), 2);
        Check.due(21, "asked()", x.asked(), 101);
        x.test(0);
        levels(x, 1, 0, 2, 1, 2, 1);
        Check.due(21, "cry of another TEST", x.cry(0, 1, 1), 1);
        Check.due(21, "asked()", x.asked(), 1001);
        Check.due(21, "cry at last", x.cry(0, 1, 1), 0);
        Check.due(21, "count(3)", x.count(3), 5);
    }

    private static void cryNoRowThatIsMissing() {
        SlowWatch x = oneStep(4, 1, 9, 2);
        Check.due(21, "cry of too small a step", x.cry(9, 1, 1), 0);
        x.tear(0, 0);
        Check.due(21, "cry of a ROW that was torn", x.cry(8, 1, 1), 0);
        x.row(0, 0);
        Check.due(21, "cry of a ROW without measurements", x.cry(8, 1, 1), 0);
        Check.due(31, "count(3)", x.count(3), 0);
    }

    /** "how many; the first one by asked()", "MACHINES in order, CUTS in order". */
    private static void cryTellsTheFirst() {
        SlowWatch x = withTest(40, 0, 0);
        x.test(0);
        for (int m = 0; m < 4; m++) {
            x.row(1, m);
        }
        x.lay(1, 3, 0, 1);
        x.lay(1, 3, 39, 2);
        x.lay(1, 2, 0, 1);
        x.lay(1, 2, 38, 2);
        x.lay(1, 2, 39, 3);
        x.row(0, 3);
        x.lay(0, 3, 20, 1);
        x.lay(0, 3, 22, 2);
        Check.due(21, "cry", x.cry(0, 1, 1), 4);
        Check.due(21, "asked()", x.asked(), 322);
        int[] want = {322, 1238, 1239, 1339, N};
        for (int i = 0; i < want.length; i++) {
            Check.due(22, "cried(" + i + ")", x.cried(i), want[i]);
        }
        x.tear(1, 3);
        x.lay(1, 2, 36, 1);
        x.lay(1, 2, 20, 0);
        x.lay(1, 2, 0, N);
        x.lay(1, 2, 37, 2);
        x.lay(1, 2, 38, 2);
        // 0 at 20, 1 at 36, 2 from 37 on, 3 at 39: two CUTS of one ROW are new, and 39 is not
        Check.due(21, "cry of two more", x.cry(0, 1, 1), 2);
        Check.due(21, "asked()", x.asked(), 1236);
        Check.due(22, "cried(4)", x.cried(4), 1236);
        Check.due(22, "cried(5)", x.cried(5), 1237);
    }

    /** "1000 times its TEST, 100 times its MACHINE, and the BUILD of its CUT". */
    private static void cryTheGreatestNumber() {
        SlowWatch x = new SlowWatch();
        x.builds(40);
        x.price(0);
        for (int t = 0; t < 8; t++) {
            x.test(1);
        }
        x.row(7, 3);
        x.lay(7, 3, 38, 0);
        x.lay(7, 3, 39, 1);
        Check.due(21, "cry", x.cry(1, 1, 2), 1);
        Check.due(21, "asked()", x.asked(), 7339);
        Check.due(22, "cried(0)", x.cried(0), 7339);
    }

    private static void cryByThoseThatCount() {
        SlowWatch x = withTest(39, 0, 0);
        x.row(0, 0);
        x.lay(0, 0, 0, 1);
        x.lay(0, 0, 39, 2);
        Check.due(21, "cry of 39 BUILDS", x.cry(0, 1, 1), 0);
        x.builds(40);
        Check.due(21, "cry of 40 BUILDS", x.cry(0, 1, 1), 1);
        Check.due(21, "asked()", x.asked(), 39);
    }

    private static void criedBeforeAny() {
        SlowWatch x = new SlowWatch();
        for (int i : new int[] {LEAST, -1, 0, 1, 299, 300, MOST}) {
            Check.due(22, "cried(" + i + ") before any", x.cried(i), N);
        }
    }

    private static void criedNoneSuch() {
        SlowWatch x = oneStep(2, 1, 2, 1);
        x.cry(0, 1, 1);
        Check.due(22, "cried(0)", x.cried(0), 1);
        for (int i : new int[] {LEAST, -9, -1, 1, 2, 299, 300, MOST}) {
            Check.due(22, "cried(" + i + ")", x.cried(i), N);
        }
    }

    /** "(300 are kept)": the first ones, while later ones are still cried, and once. */
    private static void criedThreeHundredAreKept() {
        SlowWatch x = withTest(40, 0, 0);
        x.test(0);
        x.test(0);
        climb(x, 0, 4);
        climb(x, 1, 3);
        x.row(2, 0);
        for (int b = 0; b < 27; b++) {
            x.lay(2, 0, b, b);
        }
        Check.due(21, "cry of 7 * 39 + 26", x.cry(0, 1, 1), 299);
        Check.due(22, "cried(298)", x.cried(298), 2026);
        Check.due(22, "cried(299), not yet", x.cried(299), N);
        for (int b = 27; b < 29; b++) {
            x.lay(2, 0, b, b);
            Check.due(21, "cry of one more", x.cry(0, 1, 1), 1);
            Check.due(21, "asked()", x.asked(), 2000 + b);
            Check.due(31, "count(3)", x.count(3), 273 + b);
            Check.due(22, "cried(299)", x.cried(299), 2027);
            Check.due(22, "cried(300)", x.cried(300), N);
            Check.due(21, "cry again", x.cry(0, 1, 1), 0);
        }
        Check.due(22, "cried(0) is the first one still", x.cried(0), 1);
        Check.due(22, "cried(38)", x.cried(38), 39);
        Check.due(22, "cried(39)", x.cried(39), 101);
        Check.due(22, "cried(272)", x.cried(272), 1239);
        Check.due(22, "cried(273)", x.cried(273), 2001);
    }

    /** A step at each BUILD, on so many MACHINES. */
    private static void climb(SlowWatch x, int test, int machines) {
        levels(x, test, 0, 0, 0, 0, 0);
        for (int b = 0; b < 40; b++) {
            x.lay(test, 0, b, b);
        }
        for (int m = 1; m < machines; m++) {
            x.row(test, m);
            x.copy(test, 0, 0, m, 0, 40);
        }
    }
}

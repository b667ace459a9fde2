/** The boundary cases of the Terms' second part and of promises 12 to 16: a method for each sentence. */
public final class CutEdgesTest {
    private static final int N = SlowWatch.NONE;
    private static final int LEAST = Integer.MIN_VALUE;
    private static final int MOST = Integer.MAX_VALUE;
    private static final int MILLION = 1000000;

    public static void main(String[] args) {
        priceFromNoughtTo1000();
        priceTellsWhatItWas();
        priceIs20AtFirst();
        priceOfNought();
        priceOf1000();
        priceJustWorthIt();
        costOfSpans();
        noCutsWithoutMeasured();
        noCutsWithOneMeasured();
        noCutsWithAllAlike();
        firstAndLastPlaceOfACut();
        allSpansHaveAMeasuredBuild();
        cutsAheadOfMeasuredAlone();
        fewestOfThoseAsCheap();
        fewestAheadOfEarliest();
        firstCutEarliest();
        thenTheSecond();
        firstAheadOfSecond();
        onlyBuildsThereAreCut();
        mostCuts();
        rowsCutOneAfterAnother();
        cutsOfWhatWasCopied();
        cutsOfWhatWasTakenAway();
        cutNoneSuch();
        middleAtHalf();
        middleOfFull();
        middleOfASpan();
        middleNoneSuch();
        middleOfNoMeasurement();
        middleOfNoughtIsNoNone();
        sizeOfTheGreatestSteps();
        sizeOfTheSmallestSteps();
        sizeByMiddlesNotByNeighbours();
        sizeNoneSuch();
        askedOfCuts();
        Check.end();
    }

    private static void cutsAre(SlowWatch x, String of, int sum, int... builds) {
        Check.due(13, "cuts(0, 0) of " + of, x.cuts(0, 0), builds.length);
        Check.due(13, "asked() of " + of, x.asked(), sum);
        for (int i = 0; i < builds.length; i++) {
            Check.due(14, "cut(0, 0, " + i + ") of " + of, x.cut(0, 0, i), builds[i]);
        }
        Check.due(14, "the cut behind the last one of " + of, x.cut(0, 0, builds.length), N);
    }

    /** So many measurements of one level, then so many of another. */
    private static SlowWatch twoLevels(int low, int high) {
        SlowWatch x = Check.withRow(low + high, 0);
        for (int b = 0; b < low + high; b++) {
            x.lay(0, 0, b, b < low ? 3 : 4);
        }
        return x;
    }

    private static SlowWatch forty(int price, int first, int step) {
        SlowWatch x = Check.withRow(40, 0);
        for (int b = 0; b < 40; b++) {
            x.lay(0, 0, b, first + b * step);
        }
        x.price(price);
        return x;
    }

    /** "THE PRICE (0 .. 1000 ..)". */
    private static void priceFromNoughtTo1000() {
        for (int p : new int[] {0, 1, 20, 999, 1000}) {
            SlowWatch x = new SlowWatch();
            Check.due(12, "price(" + p + ")", x.price(p), 20);
            Check.due(12, "price(5) after it", x.price(5), p);
        }
        for (int p : new int[] {LEAST, -1000, -9, -1, 1001, MOST}) {
            SlowWatch x = new SlowWatch();
            Check.due(12, "price(" + p + ")", x.price(p), SlowWatch.BAD);
            Check.due(12, "price(5) after it", x.price(5), 20);
        }
    }

    private static void priceTellsWhatItWas() {
        SlowWatch x = new SlowWatch();
        int was = 20;
        for (int p : new int[] {20, 0, 0, 1000, 1000, 7}) {
            Check.due(12, "price(" + p + ")", x.price(p), was);
            was = p;
        }
    }

    /** "20 at first": what 20 buys is no more than what it costs; what 21 costs is cut. */
    private static void priceIs20AtFirst() {
        cutsAre(twoLevels(2, 8), "what costs 20", 20);
        cutsAre(twoLevels(3, 4), "what costs 21", 20, 3);
    }

    /** The least PRICE: all that differs is cut, and nothing more. */
    private static void priceOfNought() {
        SlowWatch x = Check.withRow(6, 0, 1, 1, 2, 2, 2, 1);
        x.price(0);
        cutsAre(x, "levels for nothing", 0, 2, 5);
    }

    /** The greatest PRICE: no ROW costs more than 800, so none is cut. */
    private static void priceOf1000() {
        cutsAre(forty(1000, 0, 1), "forty in order at 1000", 800);
        SlowWatch x = twoLevels(20, 20);
        x.price(1000);
        cutsAre(x, "two times twenty at 1000", 800);
    }

    private static void priceJustWorthIt() {
        SlowWatch x = twoLevels(20, 20);
        x.price(799);
        cutsAre(x, "two times twenty at 799", 799, 20);
        x.price(800);
        cutsAre(x, "two times twenty at 800", 800);
        x.price(799);
        cutsAre(x, "two times twenty at 799 again", 799, 20);
    }

    /** "COST of a SPAN: the sum of how much their RANKS differ from that". */
    private static void costOfSpans() {
        int[][] values = {{7}, {7, 7}, {1, 2}, {2, 1}, {1, 2, 3, 4}, {3, 5, 1, 2, 4}, {1, 1, 9}, {9, 1, 1}, {1, 1, 1, 5, 9},
            {9, 5, 9, 9, 1}, {1, N, 5, N, 9}, {0, MILLION, 1, MILLION - 1, 500, 500}};
        int[] costs = {0, 0, 2, 2, 8, 12, 3, 3, 10, 10, 4, 16};
        for (int k = 0; k < costs.length; k++) {
            SlowWatch x = Check.withRow(values[k].length, 0, values[k]);
            x.price(1000);
            cutsAre(x, java.util.Arrays.toString(values[k]), costs[k]);
        }
        // RANKS 1 3 6 6 | 13 11 15 17 9: each SPAN from its own MIDDLE, 8 from 6 and 12 from 13
        SlowWatch y = Check.withRow(9, 0, 1, 2, 3, 3, 90, 80, 95, 99, 70);
        y.price(12);
        cutsAre(y, "four and five", 32, 4);
    }

    /** "(no CUTS, if there is none)", "(0 without any)". */
    private static void noCutsWithoutMeasured() {
        for (int price : new int[] {0, 20, 1000}) {
            SlowWatch x = Check.withRow(0, 0, 1, 2, 3);
            x.price(price);
            cutsAre(x, "no BUILDS", 0);
            SlowWatch y = Check.withRow(40, 0);
            y.price(price);
            cutsAre(y, "no measurements", 0);
            SlowWatch z = Check.withRow(3, 0, N, N, N, 7, 8);
            z.price(price);
            cutsAre(z, "none that counts", 0);
        }
    }

    private static void noCutsWithOneMeasured() {
        for (int b : new int[] {0, 1, 20, 38, 39}) {
            SlowWatch x = Check.withRow(40, 0);
            x.price(0);
            x.lay(0, 0, b, MILLION);
            cutsAre(x, "one measurement", 0);
            Check.due(15, "middle of one measurement", x.middle(0, 0, 0), MILLION);
            Check.due(15, "middle behind it", x.middle(0, 0, 1), N);
        }
    }

    private static void noCutsWithAllAlike() {
        for (int v : new int[] {0, 5, MILLION}) {
            cutsAre(forty(0, v, 0), "forty alike", 0);
        }
    }

    /** "ahead of a BUILD b (1 .. B - 1)". */
    private static void firstAndLastPlaceOfACut() {
        for (int b : new int[] {2, 3, 39, 40}) {
            SlowWatch x = Check.withRow(b, 0);
            x.price(0);
            for (int k = 0; k < b; k++) {
                x.lay(0, 0, k, k == 0 ? 9 : k == b - 1 ? 8 : 5);
            }
            if (b == 2) {
                cutsAre(x, "two BUILDS", 0, 1);
            } else {
                cutsAre(x, b + " BUILDS", 0, 1, b - 1);
            }
        }
    }

    /** "all SPANS have a MEASURED BUILD": no cut ahead of the first one, none behind the last one. */
    private static void allSpansHaveAMeasuredBuild() {
        SlowWatch x = Check.withRow(40, 0);
        x.price(0);
        x.lay(0, 0, 7, 3);
        x.lay(0, 0, 9, 3);
        x.lay(0, 0, 30, 4);
        x.lay(0, 0, 33, 4);
        cutsAre(x, "ends without measurements", 0, 30);
        Check.due(15, "middle 0", x.middle(0, 0, 0), 3);
        Check.due(15, "middle 1", x.middle(0, 0, 1), 4);
        Check.due(15, "middle 2", x.middle(0, 0, 2), N);
    }

    /** "CUTS stand ahead of MEASURED BUILDS alone". */
    private static void cutsAheadOfMeasuredAlone() {
        SlowWatch x = Check.withRow(10, 0, 1, N, N, N, 9, N, N, N, N, 2);
        x.price(0);
        cutsAre(x, "wide gaps", 0, 4, 9);
        x.lay(0, 0, 3, 9);
        cutsAre(x, "one laid in the gap", 0, 3, 9);
        x.lay(0, 0, 4, N);
        x.lay(0, 0, 3, N);
        cutsAre(x, "both taken away", 0, 9);
    }

    /** "of these the fewest CUTS". */
    private static void fewestOfThoseAsCheap() {
        SlowWatch x = Check.withRow(2, 0, 1, 2);
        x.price(2);
        cutsAre(x, "none as cheap as one", 2);
        x.price(1);
        cutsAre(x, "one is cheaper", 1, 1);
        SlowWatch y = Check.withRow(5, 0, 1, 1, 2, 3, 3);
        y.price(3);
        cutsAre(y, "one as cheap as two", 6, 2);
        y.price(2);
        cutsAre(y, "two are cheaper", 4, 2, 3);
    }

    /** The earliest is looked for among the fewest alone: more cuts as cheap begin ahead of them, or behind them. */
    private static void fewestAheadOfEarliest() {
        SlowWatch x = Check.withRow(4, 0, 1, 2, 3, 3);
        x.price(2);
        cutsAre(x, "2 alone, or 1 and 2", 4, 2);
        SlowWatch y = Check.withRow(6, 0, 4, 2, 3, 1, 4, 2);
        y.price(3);
        cutsAre(y, "1 alone, or 3, 4 and 5", 15, 1);
        SlowWatch z = Check.withRow(6, 0, 3, 2, 4, 1, 4, 4);
        z.price(4);
        cutsAre(z, "2 alone, 4 alone, or 3 and 4", 14, 2);
    }

    /** "of these that whose first CUT is earliest". */
    private static void firstCutEarliest() {
        SlowWatch x = Check.withRow(5, 0, 1, 1, 2, 3, 3);
        x.price(4);
        cutsAre(x, "ahead of 2 or of 3", 7, 2);
        SlowWatch y = Check.withRow(5, 0, 3, 3, 2, 1, 1);
        y.price(4);
        cutsAre(y, "the same downwards", 7, 2);
    }

    /** "then the second, and so on". */
    private static void thenTheSecond() {
        SlowWatch x = Check.withRow(7, 0, 1, 1, 5, 5, 6, 7, 7);
        // RANKS 2 2 6 6 9 12 12: 6 goes with the 5s or with the 7s, 3 away from both
        x.price(4);
        cutsAre(x, "ahead of 4 or of 5", 11, 2, 4);
    }

    /** Ahead of 1 and 6 is as cheap as ahead of 2 and 5: the first decides, though the second is later. */
    private static void firstAheadOfSecond() {
        SlowWatch x = Check.withRow(8, 0, 1, 2, 4, 3, 5, 2, 0, 1);
        x.price(5);
        cutsAre(x, "1 and 6, or 2 and 5", 25, 1, 6);
    }

    /** "Only those of BUILDS that there are count; what was laid for later ones counts once these are there." */
    private static void onlyBuildsThereAreCut() {
        SlowWatch x = Check.withRow(0, 0, 1, 2, 2, 1);
        x.price(0);
        int[][] want = {{}, {}, {1}, {1}, {1, 3}, {1, 3}};
        for (int n = 0; n <= 5; n++) {
            x.builds(n);
            cutsAre(x, n + " BUILDS", 0, want[n]);
        }
        x.builds(39);
        x.lay(0, 0, 39, 7);
        cutsAre(x, "39 BUILDS", 0, 1, 3);
        x.builds(40);
        cutsAre(x, "40 BUILDS", 0, 1, 3, 39);
    }

    private static void mostCuts() {
        SlowWatch x = forty(0, 0, 25000);
        Check.due(13, "cuts of forty", x.cuts(0, 0), 39);
        Check.due(13, "asked() of forty", x.asked(), 0);
        for (int i = 0; i < 39; i++) {
            Check.due(14, "cut " + i, x.cut(0, 0, i), i + 1);
            Check.due(15, "middle " + i, x.middle(0, 0, i), 25000 * i);
            Check.due(16, "size " + i, x.size(0, 0, i), 1);
            Check.due(16, "asked() of " + i, x.asked(), 25000);
        }
        Check.due(14, "cut 39", x.cut(0, 0, 39), N);
        Check.due(15, "middle 39", x.middle(0, 0, 39), 25000 * 39);
        Check.due(15, "middle 40", x.middle(0, 0, 40), N);
        Check.due(16, "size 39", x.size(0, 0, 39), N);
        // At 2, spans of one, two or three are as cheap: three each are the fewest, and the single one stands first.
        x.price(2);
        Check.due(13, "cuts of forty at 2", x.cuts(0, 0), 13);
        Check.due(13, "asked() of forty at 2", x.asked(), 78);
        for (int i = 0; i < 13; i++) {
            Check.due(14, "cut " + i + " at 2", x.cut(0, 0, i), 1 + 3 * i);
        }
    }

    /** Nothing of a longer ROW weighs on a shorter one. */
    private static void rowsCutOneAfterAnother() {
        for (int n = 1; n <= 4; n++) {
            SlowWatch x = Check.withRow(40, 0, 1, 2, 3, 4);
            x.row(0, 1);
            for (int b = 0; b < 40; b++) {
                x.lay(0, 1, b, b % 2);
            }
            for (int b = n; b < 4; b++) {
                x.lay(0, 0, b, N);
            }
            // RANKS 20 and 60: 800 without a cut, 760 and a price if the first or the last one is cut off
            Check.due(13, "cuts of forty by turns", x.cuts(0, 1), 1);
            Check.due(13, "asked()", x.asked(), 780);
            Check.due(14, "cut of forty by turns", x.cut(0, 1, 0), 1);
            int[] costs = {0, 0, 2, 4, 8};
            cutsAre(x, "the first " + n, costs[n]);
        }
    }

    private static void cutsOfWhatWasCopied() {
        SlowWatch x = Check.withRow(4, 0, 1, 1, 9, 9);
        x.row(0, 1);
        x.price(0);
        cutsAre(x, "levels", 0, 2);
        x.copy(0, 1, 0, 0, 2, 2);
        cutsAre(x, "levels, one copied over", 0);
        x.copy(0, 0, 0, 0, 3, 1);
        x.lay(0, 0, 0, 2);
        cutsAre(x, "levels, copied onto itself", 0, 1);
        x.copy(0, 0, 3, 0, 0, 1);
        cutsAre(x, "levels, copied back", 0);
    }

    private static void cutsOfWhatWasTakenAway() {
        SlowWatch x = Check.withRow(4, 0, 1, 1, 9, 9);
        x.price(0);
        cutsAre(x, "levels", 0, 2);
        x.row(0, 0);
        cutsAre(x, "levels, made anew", 0);
        Check.due(15, "middle of it", x.middle(0, 0, 0), N);
        Check.due(16, "size of it", x.size(0, 0, 0), N);
        Check.layAll(x, 0, 0, 1, 9);
        cutsAre(x, "levels, laid anew", 0, 1);
        x.tear(0, 0);
        x.row(0, 0);
        cutsAre(x, "levels, torn and made anew", 0);
        Check.due(15, "middle of that", x.middle(0, 0, 0), N);
    }

    /** "NONE: none such". */
    private static void cutNoneSuch() {
        SlowWatch x = Check.withRow(4, 0, 1, 2, 3, 3);
        x.price(0);
        int[] want = {1, 2, N, N};
        for (int i = 0; i < 4; i++) {
            Check.due(14, "cut " + i, x.cut(0, 0, i), want[i]);
        }
        for (int i : new int[] {LEAST, -9, -1, 39, 40, 41, MOST}) {
            Check.due(14, "cut " + i, x.cut(0, 0, i), N);
        }
    }

    /** "that at place n / 2 (cut, from 0 ..)". */
    private static void middleAtHalf() {
        int[] values = {50, 10, 40, 20, 30, 60};
        int[] want = {N, 50, 50, 40, 40, 30, 40};
        SlowWatch x = Check.withRow(0, 0, values);
        x.price(1000);
        for (int n = 0; n <= 6; n++) {
            x.builds(n);
            Check.due(15, "middle of " + n, x.middle(0, 0, 0), want[n]);
        }
    }

    private static void middleOfFull() {
        Check.due(15, "middle of forty", forty(1000, 100, 1).middle(0, 0, 0), 120);
        SlowWatch x = forty(1000, 100, 1);
        x.lay(0, 0, 39, N);
        Check.due(15, "middle of 39", x.middle(0, 0, 0), 119);
        Check.due(15, "middle of the greatest", forty(1000, MILLION, 0).middle(0, 0, 0), MILLION);
    }

    /** A MIDDLE is of its SPAN alone. */
    private static void middleOfASpan() {
        SlowWatch x = Check.withRow(8, 0, 1, 3, 2, 90, 70, 80, 60, N);
        // RANKS 1 to 13: 4 ahead of the cut, 8 behind it
        x.price(5);
        cutsAre(x, "three and four", 17, 3);
        Check.due(15, "middle 0", x.middle(0, 0, 0), 2);
        Check.due(15, "middle 1", x.middle(0, 0, 1), 80);
    }

    private static void middleNoneSuch() {
        SlowWatch x = Check.withRow(4, 0, 1, 1, 3, 3);
        x.price(0);
        Check.due(15, "middle 1", x.middle(0, 0, 1), 3);
        for (int i : new int[] {LEAST, -9, -1, 2, 39, 40, 41, MOST}) {
            Check.due(15, "middle " + i, x.middle(0, 0, i), N);
        }
    }

    /** "NONE: .. no measurement". */
    private static void middleOfNoMeasurement() {
        SlowWatch x = Check.withRow(0, 0, 5);
        Check.due(15, "middle without BUILDS", x.middle(0, 0, 0), N);
        x.builds(1);
        Check.due(15, "middle with one", x.middle(0, 0, 0), 5);
        x.lay(0, 0, 0, N);
        Check.due(15, "middle without measurements", x.middle(0, 0, 0), N);
        Check.due(15, "finding(): NONE is none", x.finding(), 0);
    }

    private static void middleOfNoughtIsNoNone() {
        Check.due(15, "middle of 0", Check.withRow(1, 0, 0).middle(0, 0, 0), 0);
        Check.due(15, "middle of forty times 0", forty(0, 0, 0).middle(0, 0, 0), 0);
    }

    private static void sizeIs(SlowWatch x, int i, int size) {
        Check.due(16, "size " + i, x.size(0, 0, i), 1);
        Check.due(16, "asked() of size " + i, x.asked(), size);
    }

    private static void sizeOfTheGreatestSteps() {
        SlowWatch x = Check.withRow(3, 0, 0, MILLION, 0);
        x.price(0);
        sizeIs(x, 0, MILLION);
        sizeIs(x, 1, -MILLION);
    }

    /** "(above 0: up)". */
    private static void sizeOfTheSmallestSteps() {
        SlowWatch x = Check.withRow(3, 0, MILLION - 1, MILLION, MILLION - 1);
        x.price(0);
        sizeIs(x, 0, 1);
        sizeIs(x, 1, -1);
    }

    /** "from the MIDDLE measurement of the SPAN ahead of it to that of the SPAN behind it". */
    private static void sizeByMiddlesNotByNeighbours() {
        SlowWatch x = Check.withRow(8, 0, 1, 3, 2, 60, 70, 80, 90, N);
        // RANKS 1 to 13: 4 ahead of the cut, 8 behind it
        x.price(5);
        cutsAre(x, "three and four", 17, 3);
        sizeIs(x, 0, 80 - 2);
    }

    private static void sizeNoneSuch() {
        SlowWatch x = Check.withRow(3, 0, 4, 9, 9);
        x.price(0);
        sizeIs(x, 0, 5);
        for (int i : new int[] {LEAST, -9, -1, 1, 2, 38, 39, 40, MOST}) {
            Check.due(16, "size " + i, x.size(0, 0, i), N);
            Check.due(16, "asked() after NONE", x.asked(), 5);
        }
    }

    /** "COSTS and PRICES together by asked()". */
    private static void askedOfCuts() {
        SlowWatch x = Check.withRow(6, 0, 1, 1, 2, 8, 8, 9);
        // RANKS 2 2 5 8 8 11: the odd ones are 3 away
        x.price(3);
        cutsAre(x, "two levels with odd ones", 9, 2);
        x.price(2);
        cutsAre(x, "all levels", 6, 2, 3, 5);
    }
}

import java.math.BigInteger;

/**
 * The sentences of the document that name a boundary case, one test for each, in the document's
 * order; each is quoted above its test. Refused calls are in RefusalsTest, the empty list in
 * EmptyListTest, runs of 512 calls in LongRunTest.
 */
public final class BoundaryTest {
    private static final Due due = new Due();
    private static final int LEAST = Integer.MIN_VALUE;
    private static final int GREATEST = Integer.MAX_VALUE;
    private static final int[] COUNTS = {0, 1, 2, 7, 42, 429};
    private static final int[] FACTORIALS = {1, 1, 2, 6, 24, 120};

    /** How many good squares have 0, 1, 2, .. entries -1, for each size; CountingTest reckons it. */
    private static final int[][] NEGATIVES = {
        {}, {1}, {2}, {6, 1}, {24, 16, 2}, {120, 200, 94, 14, 1}};

    public static void main(String[] args) {
        atLeastOneEntryOtherThanZero();
        firstAndLastAreOne();
        theyAlternate();
        mostEntriesOtherThanZero();
        binaryDigitsOfSets();
        atFirstAllAreAllowed();
        fitsIfAllAreAllowed();
        theLesserEntryDecides();
        numbersHaveNoGaps();
        cornerSumsTakeInTheirPlace();
        outerEdgesGoRound();
        everyPathHasTwoEnds();
        aRefusedLoadChangesNothing();
        aRefusedPutChangesNothing();
        aRefusedAllowChangesNothing();
        theCallsBelowChangeNothing();
        belowOneBecomesOne();
        aboveFiveBecomesFive();
        sizesBetweenStay();
        theSquareAtHandIsZeroEverywhere();
        allowAnswersWhichWere();
        putAnswersOne();
        loadAnswersOne();
        countAtEachSize();
        goodWithoutFitting();
        rankOfOneThatDoesNotFit();
        noneHasSoManyNegatives();
        theSumWraps();
        thePowerWraps();
        powerZeroIsOne();
        havingAnEntryThatIsNotAllowed();
        inversionsOfFirstAndLast();
        inversionsLeaveOutTheSameLine();
        mixOfTheSameAndOfTheEnds();
        thereIsAlwaysAMix();
        mixThatDoesNotFit();
        pathEndAtTheEnds();
        noRingsAndMostRings();
        leastAndGreatestPattern();
        patternsThatNoneHas();
        whichIsTestedBeforeTheFit();
        due.end();
    }

    private static SignMatrices withHand(int n, int... entries) {
        SignMatrices x = new SignMatrices(n);
        for (int place = 0; place < n * n; place++) {
            due.is("put", x.put(place / n, place % n, entries[place]), 1);
        }
        return x;
    }

    private static int[] turned(int n, int... entries) {
        int[] made = new int[n * n];
        for (int place = 0; place < n * n; place++) {
            made[place % n * n + place / n] = entries[place];
        }
        return made;
    }

    /** The square and the one with rows and columns exchanged. */
    private static void goodBothWays(String what, int want, int n, int... entries) {
        SignMatrices x = withHand(n, entries);
        SignMatrices y = withHand(n, turned(n, entries));
        due.is(what + ", isGood()", x.isGood(), want);
        due.is(what + ", in a column, isGood()", y.isGood(), want);
        due.holds(what + ", rank()", x.rank() >= 0 == (want == 1));
        due.holds(what + ", in a column, rank()", y.rank() >= 0 == (want == 1));
    }

    /** Terms: "(there is at least one)". */
    private static void atLeastOneEntryOtherThanZero() {
        goodBothWays("size 1, 0", 0, 1, 0);
        goodBothWays("size 1, 1", 1, 1, 1);
        goodBothWays("all 0", 0, 3, 0, 0, 0, 0, 0, 0, 0, 0, 0);
        goodBothWays("first row 0", 0, 3, 0, 0, 0, 1, 0, 0, 0, 1, 0);
        goodBothWays("middle row 0", 0, 3, 1, 0, 0, 0, 0, 0, 0, 0, 1);
        goodBothWays("last row 0", 0, 3, 0, 1, 0, 1, 0, 0, 0, 0, 0);
        goodBothWays("last row 0 at size 2", 0, 2, 1, 0, 0, 0);
    }

    /** Terms: "the first and the last one being 1". All other lines are as they must be. */
    private static void firstAndLastAreOne() {
        goodBothWays("size 1, -1", 0, 1, -1);
        goodBothWays("a row 1, 1, -1", 0, 3, 0, 0, 1, 0, 0, 1, 1, 1, -1);
        goodBothWays("the middle column 1, 1, -1", 0, 3, 0, 1, 0, 0, 1, 0, 1, -1, 1);
        goodBothWays("the middle column -1, 1, 1", 0, 3, 1, -1, 1, 0, 1, 0, 0, 1, 0);
        goodBothWays("a row -1, 1", 0, 2, -1, 1, 1, 0);
        goodBothWays("a row 1, -1", 0, 2, 1, -1, 0, 1);
    }

    /** Terms: "they alternate". The first and the last one are 1, and so is the sum. */
    private static void theyAlternate() {
        goodBothWays("two 1", 0, 2, 1, 1, 0, 0);
        goodBothWays("a column 1, 1, -1, -1, 1", 0, 5,
                0, 0, 1, 0, 0,
                0, 0, 1, 0, 0,
                1, 0, -1, 1, 0,
                0, 1, -1, 0, 1,
                0, 0, 1, 0, 0);
        goodBothWays("a column 1, -1, -1, 1, 1", 0, 5,
                0, 0, 1, 0, 0,
                1, 0, -1, 1, 0,
                0, 1, -1, 0, 1,
                0, 0, 1, 0, 0,
                0, 0, 1, 0, 0);
        goodBothWays("a column 1, 0, -1, 0, 1", 1, 5,
                0, 0, 1, 0, 0,
                1, 0, 0, 0, 0,
                0, 1, -1, 1, 0,
                0, 0, 0, 0, 1,
                0, 0, 1, 0, 0);
    }

    /** Terms: "1, -1, 1, .., 1 in this order", with no 0 left in the line. */
    private static void mostEntriesOtherThanZero() {
        goodBothWays("a full line at size 3", 1, 3, 0, 1, 0, 1, -1, 1, 0, 1, 0);
        goodBothWays("full lines at size 5", 1, 5,
                0, 0, 1, 0, 0,
                0, 1, -1, 1, 0,
                1, -1, 1, -1, 1,
                0, 1, -1, 1, 0,
                0, 0, 1, 0, 0);
    }

    /** Terms: "a set of entries is the number from 1 to 7 that has the binary digits 0, 1 and 2". */
    private static void binaryDigitsOfSets() {
        SignMatrices one = new SignMatrices(1);
        for (int set = 1; set <= 7; set++) {
            one.allow(0, 0, set);
            due.is("size 1: count() with the set " + set, one.count(), set >= 4 ? 1 : 0);
        }
        // In the middle of size 3 one square has -1, four have 0, two have 1.
        int[] inTheMiddle = {0, 1, 4, 5, 2, 3, 6, 7};
        SignMatrices three = new SignMatrices(3);
        for (int set = 7; set >= 1; set--) {
            three.allow(1, 1, set);
            due.is("size 3: count() with the set " + set, three.count(), inTheMiddle[set]);
        }
        for (int n = 2; n <= 5; n++) {
            for (int place = 0; place < n * n; place++) {
                setsAt(n, place / n, place % n);
            }
        }
    }

    private static void setsAt(int n, int r, int c) {
        SignMatrices x = new SignMatrices(n);
        int[] having = {x.having(r, c, -1), x.having(r, c, 0), x.having(r, c, 1)};
        for (int set = 1; set <= 7; set++) {
            x.allow(r, c, set);
            int want = 0;
            for (int digit = 0; digit < 3; digit++) {
                boolean allowed = (set >> digit) % 2 == 1;
                want += allowed ? having[digit] : 0;
                String call = "with the set " + set + ": having(" + r + ", " + c + ", " + (digit - 1) + ")";
                due.is(call, x.having(r, c, digit - 1), allowed ? having[digit] : 0);
            }
            due.is("size " + n + ": count() with the set " + set, x.count(), want);
        }
        due.is("the way back", x.allow(r, c, 7), 7);
        due.is("the way back, count()", x.count(), COUNTS[n]);
    }

    /** Terms: "at first all are". */
    private static void atFirstAllAreAllowed() {
        for (int n = 1; n <= 5; n++) {
            for (int place = 0; place < n * n; place++) {
                SignMatrices x = new SignMatrices(n);
                due.is("size " + n + ", new: allow", x.allow(place / n, place % n, 1), 7);
            }
        }
    }

    /** Terms: "A good square FITS if all its entries are allowed." One that is not is enough. */
    private static void fitsIfAllAreAllowed() {
        for (int n = 1; n <= 5; n++) {
            SignMatrices x = onlyTheDiagonalFits(n);
            due.is("size " + n + ": just its entries are allowed, count()", x.count(), 1);
            due.is("size " + n + ": just its entries are allowed, rank()", x.rank(), 0);
            for (int place = 0; place < n * n; place++) {
                int own = place / n == place % n ? 4 : 2;
                x.allow(place / n, place % n, 7 - own);
                due.is("size " + n + ": all but one are allowed, rank()", x.rank(), -2);
                due.is("size " + n + ": all but one are allowed, count()", x.count(), 0);
                x.allow(place / n, place % n, own);
                due.is("size " + n + ": that one too, rank()", x.rank(), 0);
            }
        }
    }

    private static SignMatrices onlyTheDiagonalFits(int n) {
        SignMatrices x = new SignMatrices(n);
        for (int place = 0; place < n * n; place++) {
            boolean on = place / n == place % n;
            x.allow(place / n, place % n, on ? 4 : 2);
            x.put(place / n, place % n, on ? 1 : 0);
        }
        return x;
    }

    /** The entries of square number k, at a new object, since it is good for 512 calls. */
    private static int[] entriesOf(int n, int k) {
        SignMatrices x = new SignMatrices(n);
        int[] made = new int[n * n];
        for (int place = 0; place < n * n; place++) {
            made[place] = x.entry(k, place / n, place % n);
        }
        return made;
    }

    /** Terms: "the lesser entry at the first place where they differ decides". */
    private static void theLesserEntryDecides() {
        for (int n = 1; n <= 5; n++) {
            int[] before = entriesOf(n, 0);
            for (int r = 0; r < n; r++) {
                due.is("size " + n + ": the first is the other diagonal", before[r * n + n - 1 - r], 1);
            }
            for (int k = 1; k < COUNTS[n]; k++) {
                int[] entries = entriesOf(n, k);
                int place = 0;
                while (place < n * n - 1 && entries[place] == before[place]) {
                    place++;
                }
                due.holds("size " + n + ": " + (k - 1) + " comes before " + k, before[place] < entries[place]);
                before = entries;
            }
            for (int r = 0; r < n; r++) {
                due.is("size " + n + ": the last is the diagonal", before[r * n + r], 1);
            }
        }
    }

    /** Terms: "SQUARE NUMBER k is the fitting square with exactly k fitting ones before it." */
    private static void numbersHaveNoGaps() {
        SignMatrices x = new SignMatrices(3);
        // Of the seven, numbers 0, 3 and 6 go; the four left move up.
        x.allow(1, 1, 2);
        int[] whereOneIs = {2, 1, 1, 0};
        for (int k = 0; k < 4; k++) {
            due.is("entry(" + k + ", 0, " + whereOneIs[k] + ")", x.entry(k, 0, whereOneIs[k]), 1);
            due.is("load(" + k + ")", x.load(k), 1);
            due.is("rank()", x.rank(), k);
        }
        due.is("load(4)", x.load(4), -1);
        for (int n = 2; n <= 5; n++) {
            SignMatrices y = new SignMatrices(n);
            y.allow(0, n - 1, 3);
            int left = COUNTS[n] - COUNTS[n - 1];
            due.is("size " + n + ": count()", y.count(), left);
            due.is("size " + n + ": load(0)", y.load(0), 1);
            y.allow(0, n - 1, 7);
            due.is("size " + n + ": the first left", y.rank(), COUNTS[n - 1]);
            due.is("size " + n + ": load of the last left", y.load(left - 1 + COUNTS[n - 1]), 1);
            y.allow(0, n - 1, 3);
            due.is("size " + n + ": the last left", y.rank(), left - 1);
        }
    }

    /** Terms: "the sum of the entries at all (i, j) with i at most r and j at most c". */
    private static void cornerSumsTakeInTheirPlace() {
        for (int n = 1; n <= 5; n++) {
            int last = n - 1;
            for (int k : new int[] {0, COUNTS[n] / 2, COUNTS[n] - 1}) {
                SignMatrices x = new SignMatrices(n);
                String of = "size " + n + ", square " + k + ": corner at ";
                due.is(of + "the first place", x.corner(k, 0, 0), x.entry(k, 0, 0));
                due.is(of + "the last place", x.corner(k, last, last), n);
                for (int i = 0; i < n; i++) {
                    due.is(of + "the end of row " + i, x.corner(k, i, last), i + 1);
                    due.is(of + "the end of column " + i, x.corner(k, last, i), i + 1);
                }
            }
        }
    }

    /**
     * Terms: "number e from 0 to n - 1 lies above (0, e); n + r to the right of (r, n - 1);
     * 2 n + i below (n - 1, n - 1 - i); 3 n + i to the left of (n - 1 - i, 0)". The paths of the
     * diagonal lie one inside the other round the corners at its two ends, so that the numbers
     * of both ends of a path make 4 n. With the columns in the other order the edges that are on
     * are the same ones if n is odd, else all the others; so the paths of the first square lie
     * round the other two corners, and the numbers make 2 n - 2 or 2 n, or 4 n more.
     */
    private static void outerEdgesGoRound() {
        for (int n = 1; n <= 5; n++) {
            SignMatrices x = new SignMatrices(n);
            int diagonal = COUNTS[n] - 1;
            for (int e = 1; e < 4 * n; e += 2) {
                String call = "size " + n + ": pathEnd(" + diagonal + ", " + e + ")";
                due.is(call, x.pathEnd(diagonal, e), 4 * n - e);
                int both = n % 2 == 0 ? 2 * n : 2 * n - 2;
                int end = Math.floorMod(both - e, 4 * n);
                due.is("size " + n + ": pathEnd(0, " + e + ")", x.pathEnd(0, e), end);
            }
        }
    }

    /** Terms: "these make paths from outer edges to outer edges". */
    private static void everyPathHasTwoEnds() {
        for (int n = 1; n <= 5; n++) {
            for (int k = 0; k < COUNTS[n]; k++) {
                SignMatrices x = new SignMatrices(n);
                int on = 0;
                int digits = 0;
                for (int e = 0; e < 4 * n; e++) {
                    int end = x.pathEnd(k, e);
                    if (end == -3) {
                        continue;
                    }
                    String of = "size " + n + ": the path of " + k + " from " + e;
                    due.holds(of + " ends elsewhere", end != e);
                    due.is(of + " and back", x.pathEnd(k, end), e);
                    on++;
                    digits = digits * 2 + (end > e ? 1 : 0);
                }
                due.is("size " + n + ": outer edges on of " + k, on, 2 * n);
                due.is("size " + n + ": pattern(" + k + ")", x.pattern(k), digits);
            }
        }
    }

    /** "A refused call changes nothing.", of load, with a square at hand that has no number near. */
    private static void aRefusedLoadChangesNothing() {
        for (int n = 1; n <= 5; n++) {
            for (int k : new int[] {LEAST, -1, COUNTS[n], GREATEST}) {
                SignMatrices x = new SignMatrices(n);
                due.is("size " + n + ": load(" + k + ")", x.load(k), -1);
                due.is("size " + n + ": still all 0, isGood()", x.isGood(), 0);
                for (int i = 0; i < n; i++) {
                    x.put(i, n - 1 - i, 1);
                }
                due.is("size " + n + ": still 0 elsewhere, rank()", x.rank(), 0);
            }
        }
        SignMatrices y = new SignMatrices(5);
        due.is("load(200)", y.load(200), 1);
        for (int k : new int[] {LEAST, -429, -1, 429, 430, 629, GREATEST}) {
            due.is("load(" + k + ")", y.load(k), -1);
            due.is("rank() after a refused load", y.rank(), 200);
        }
        y.allow(0, 0, 1);
        due.is("load(200) when none fits", y.load(200), -1);
        y.allow(0, 0, 7);
        due.is("rank() after a refused load", y.rank(), 200);
    }

    /** "A refused call changes nothing.", of put, with a square at hand that is not good. */
    private static void aRefusedPutChangesNothing() {
        for (int n = 1; n <= 5; n++) {
            for (int place = 0; place < n * n; place++) {
                SignMatrices x = onlyTheDiagonalFits(n);
                int r = place / n;
                int c = place % n;
                x.put(0, 0, 0);
                for (int v : new int[] {LEAST, -2, 2, GREATEST}) {
                    due.is("size " + n + ": put(.., " + v + ")", x.put(r, c, v), -2);
                }
                for (int bad : new int[] {LEAST, -1, n, GREATEST}) {
                    due.is("size " + n + ": put(" + bad + ", ..)", x.put(bad, c, -1), -1);
                    due.is("size " + n + ": put(.., " + bad + ", ..)", x.put(r, bad, -1), -1);
                }
                due.is("size " + n + ": still not good", x.isGood(), 0);
                x.put(0, 0, 1);
                due.is("size " + n + ": the other entries are kept", x.rank(), 0);
            }
        }
    }

    /** "A refused call changes nothing.", of allow, after which the set is asked for. */
    private static void aRefusedAllowChangesNothing() {
        for (int n = 1; n <= 5; n++) {
            for (int place = 0; place < n * n; place++) {
                SignMatrices x = onlyTheDiagonalFits(n);
                int r = place / n;
                int c = place % n;
                int own = r == c ? 4 : 2;
                for (int set : new int[] {LEAST, -1, 0, 8, 15, GREATEST}) {
                    due.is("size " + n + ": allow(.., " + set + ")", x.allow(r, c, set), -2);
                }
                for (int bad : new int[] {LEAST, -1, n, GREATEST}) {
                    due.is("size " + n + ": allow(" + bad + ", ..)", x.allow(bad, c, 1), -1);
                    due.is("size " + n + ": allow(.., " + bad + ", ..)", x.allow(r, bad, 1), -1);
                }
                due.is("size " + n + ": count()", x.count(), 1);
                due.is("size " + n + ": the set is kept", x.allow(r, c, own), own);
                due.is("size " + n + ": count()", x.count(), 1);
            }
        }
    }

    /** "The calls below change nothing.": count to withPattern, with right arguments too. */
    private static void theCallsBelowChangeNothing() {
        int[][] arguments = {{0, 0, 0}, {1, 1, 1}, {3, 2, 1}, {2, 4, 0}, {1, -1, 2}, {-1, 9, 9}};
        for (Call call : Call.values()) {
            if (call == Call.allow || call == Call.put || call == Call.load) {
                continue;
            }
            for (int[] given : arguments) {
                SignMatrices x = withHand(3, 0, 1, 0, 1, 0, 1, 0, 1, 0);
                x.allow(2, 2, 6);
                int first = call.ask(x, given);
                due.is(call + " asked again", call.ask(x, given), first);
                due.is("after " + call + ": count()", x.count(), 7);
                due.is("after " + call + ": isGood()", x.isGood(), 0);
                x.put(1, 1, -1);
                due.is("after " + call + ": the square at hand", x.rank(), 3);
                for (int place = 0; place < 9; place++) {
                    int set = place == 8 ? 6 : 7;
                    due.is("after " + call + ": allowed", x.allow(place / 3, place % 3, set), set);
                }
            }
        }
    }

    private static void hasSize(int given, int n) {
        SignMatrices x = new SignMatrices(given);
        String of = "new " + given + ": ";
        due.is(of + "count()", x.count(), COUNTS[n]);
        due.is(of + "put(n - 1, n - 1, 1)", x.put(n - 1, n - 1, 1), 1);
        due.is(of + "put(n, 0, 1)", x.put(n, 0, 1), -1);
        due.is(of + "put(0, n, 1)", x.put(0, n, 1), -1);
        due.is(of + "pathEnd(0, 4 n)", x.pathEnd(0, 4 * n), -2);
        due.holds(of + "pathEnd(0, 4 n - 1)", x.pathEnd(0, 4 * n - 1) >= 0);
        due.is(of + "corner of the last", x.corner(COUNTS[n] - 1, n - 1, n - 1), n);
    }

    /** Promise 1: "below 1 becomes 1". */
    private static void belowOneBecomesOne() {
        for (int given : new int[] {LEAST, LEAST + 1, -1000, -5, -1, 0}) {
            hasSize(given, 1);
        }
    }

    /** Promise 1: "above 5 becomes 5". */
    private static void aboveFiveBecomesFive() {
        for (int given : new int[] {6, 7, 10, 1000, GREATEST - 1, GREATEST}) {
            hasSize(given, 5);
        }
    }

    /** Promise 1: "n is 'size' clamped into 1 to 5", the ends and what is between. */
    private static void sizesBetweenStay() {
        for (int n = 1; n <= 5; n++) {
            hasSize(n, n);
        }
    }

    /** Promise 1: "the square at hand has the entry 0 everywhere." */
    private static void theSquareAtHandIsZeroEverywhere() {
        for (int n = 1; n <= 5; n++) {
            due.is("size " + n + ": isGood()", new SignMatrices(n).isGood(), 0);
            due.is("size " + n + ": rank()", new SignMatrices(n).rank(), -2);
            // With 1 put along one line from side to side, all other places must be 0.
            for (int shift = 0; shift < n; shift++) {
                SignMatrices x = new SignMatrices(n);
                for (int r = 0; r < n; r++) {
                    due.is("size " + n + ": before row " + r, x.isGood(), 0);
                    x.put(r, (r + shift) % n, 1);
                }
                due.is("size " + n + ", shift " + shift + ": isGood()", x.isGood(), 1);
            }
        }
    }

    /** Promise 2: "Else answers which were." Also when the set stays the same. */
    private static void allowAnswersWhichWere() {
        for (int n = 1; n <= 5; n++) {
            for (int place : new int[] {0, n - 1, n * n / 2, n * n - n, n * n - 1}) {
                SignMatrices x = new SignMatrices(n);
                int before = 7;
                for (int set : new int[] {1, 1, 2, 3, 4, 5, 6, 7, 7, 1, 7}) {
                    String call = "size " + n + ": allow(" + place / n + ", " + place % n + ", " + set + ")";
                    due.is(call, x.allow(place / n, place % n, set), before);
                    before = set;
                }
                due.is("size " + n + ": all are allowed again, count()", x.count(), COUNTS[n]);
            }
        }
    }

    /** Promise 3: "Else answers 1." Also for what is there already and for what is not allowed. */
    private static void putAnswersOne() {
        for (int n = 1; n <= 5; n++) {
            SignMatrices x = new SignMatrices(n);
            for (int v : new int[] {-1, -1, 0, 0, 1, 1}) {
                due.is("size " + n + ": put(0, 0, " + v + ")", x.put(0, 0, v), 1);
                due.is("size " + n + ": put(n - 1, n - 1, " + v + ")", x.put(n - 1, n - 1, v), 1);
            }
            x.allow(0, 0, 1);
            for (int v = -1; v <= 1; v++) {
                due.is("size " + n + ": put of any entry", x.put(0, 0, v), 1);
            }
            due.is("size " + n + ": put leaves what is allowed", x.allow(0, 0, 7), 1);
        }
    }

    /** Promise 4: "Else answers 1." Of the first and the last, also when it is at hand already. */
    private static void loadAnswersOne() {
        for (int n = 1; n <= 5; n++) {
            SignMatrices x = new SignMatrices(n);
            for (int k : new int[] {0, 0, COUNTS[n] - 1, COUNTS[n] - 1, COUNTS[n] / 2}) {
                due.is("size " + n + ": load(" + k + ")", x.load(k), 1);
                due.is("size " + n + ": rank()", x.rank(), k);
            }
        }
    }

    /** Promise 5: "How many squares fit.", from the fewest to the most. */
    private static void countAtEachSize() {
        for (int n = 1; n <= 5; n++) {
            SignMatrices x = new SignMatrices(n);
            due.is("size " + n + ": count() of all", x.count(), COUNTS[n]);
            int left = n;
            for (int i = 0; i < n; i++) {
                x.allow(i, i, 4);
                left = n - 1 - i;
                int want = left == 0 ? 1 : COUNTS[left];
                due.is("size " + n + ": count() with " + left + " lines free", x.count(), want);
            }
        }
    }

    /** Promise 7: "1 if the square at hand is good, else 0.", whether it fits or not. */
    private static void goodWithoutFitting() {
        for (int n = 1; n <= 5; n++) {
            SignMatrices x = onlyTheDiagonalFits(n);
            x.allow(0, 0, 3);
            due.is("size " + n + ": good though it does not fit", x.isGood(), 1);
            x.put(n - 1, n - 1, 0);
            due.is("size " + n + ": not good", x.isGood(), 0);
        }
        SignMatrices y = withHand(2, 1, 1, 1, 1);
        for (int place = 0; place < 4; place++) {
            y.allow(place / 2, place % 2, 4);
        }
        due.is("all its entries are allowed, and it is not good: isGood()", y.isGood(), 0);
    }

    /** Promise 8: "-2 if it does not fit." */
    private static void rankOfOneThatDoesNotFit() {
        SignMatrices x = withHand(2, 1, 1, 1, 1);
        due.is("rank() of one that is not good", x.rank(), -2);
        x.load(0);
        x.allow(0, 1, 3);
        due.is("rank() of a good one that is not allowed", x.rank(), -2);
        due.is("the other one is left, count()", x.count(), 1);
        x.allow(0, 1, 5);
        due.is("rank() of a good one that is allowed", x.rank(), 0);
        SignMatrices y = withHand(3, 0, 1, 0, 1, -1, 1, 0, 1, 0);
        // Three come before it: number 0 with 1 in the middle, numbers 1 and 2 with 0 there.
        int[] ranks = {0, 0, -2, 2, -2, 1, -2, 3};
        for (int set = 1; set <= 7; set++) {
            y.allow(1, 1, set);
            due.is("rank() with the set " + set + " in the middle", y.rank(), ranks[set]);
        }
    }

    /** Promise 9: "(0 for a j that none has.)" */
    private static void noneHasSoManyNegatives() {
        for (int n = 1; n <= 5; n++) {
            SignMatrices x = new SignMatrices(n);
            for (int j : new int[] {LEAST, -2, -1, NEGATIVES[n].length, 9, 25, 26, GREATEST}) {
                due.is("size " + n + ": negatives(" + j + ")", x.negatives(j), 0);
            }
            for (int j = 0; j < NEGATIVES[n].length; j++) {
                due.is("size " + n + ": negatives(" + j + ")", x.negatives(j), NEGATIVES[n][j]);
            }
        }
        SignMatrices y = mostNegativesAlone();
        int[] found = {0, 0, 0, 0, 1, 0};
        for (int j = 0; j < 6; j++) {
            due.is("one square left: negatives(" + j + ")", y.negatives(j), found[j]);
        }
        SignMatrices z = new SignMatrices(3);
        z.allow(1, 1, 6);
        due.is("negatives(1) when that one does not fit", z.negatives(1), 0);
    }

    /** Just one square of size 5 has four entries -1, and these four places make it sure. */
    private static SignMatrices mostNegativesAlone() {
        SignMatrices x = new SignMatrices(5);
        x.allow(1, 2, 1);
        x.allow(2, 1, 1);
        x.allow(2, 3, 1);
        x.allow(3, 2, 1);
        return x;
    }

    /** Promise 10: "The sum (wrapping)". */
    private static void theSumWraps() {
        SignMatrices x = new SignMatrices(5);
        // The sum is 120 + 200 x + 94 x^2 + 14 x^3 + x^4. For 211 it is still an int; for 212, where
        // it is 2157624184, and for 215, where it is 2280276145, just the powers are.
        due.is("weight(211)", x.weight(211), 2117861769);
        due.is("weight(212)", x.weight(212), (int) 2157624184L);
        due.is("weight(215)", x.weight(215), (int) 2280276145L);
        int[] bases = {LEAST, LEAST + 1, -65536, -46341, -1000, -217, -1, 0, 1, 2, 3, 214, 216, 256,
            1290, 1291, 46340, 46341, 65535, 65536, 65537, 1 << 30, GREATEST - 1, GREATEST};
        for (int n = 1; n <= 5; n++) {
            SignMatrices y = new SignMatrices(n);
            for (int base : bases) {
                BigInteger sum = BigInteger.ZERO;
                for (int j = 0; j < NEGATIVES[n].length; j++) {
                    BigInteger power = BigInteger.valueOf(base).pow(j);
                    sum = sum.add(power.multiply(BigInteger.valueOf(NEGATIVES[n][j])));
                }
                due.is("size " + n + ": weight(" + base + ")", y.weight(base), sum.intValue());
            }
        }
    }

    /** Promise 10: the wrapping of one power alone. */
    private static void thePowerWraps() {
        SignMatrices x = mostNegativesAlone();
        due.is("one square left: count()", x.count(), 1);
        due.is("one square left: weight(215)", x.weight(215), 2136750625);
        due.is("one square left: weight(216)", x.weight(216), -2118184960);
        due.is("one square left: weight(-216)", x.weight(-216), -2118184960);
        due.is("one square left: weight(256)", x.weight(256), 0);
        due.is("one square left: weight of the least", x.weight(LEAST), 0);
        due.is("one square left: weight of the greatest", x.weight(GREATEST), 1);
        SignMatrices y = new SignMatrices(3);
        y.allow(1, 1, 1);
        due.is("to the power 1: weight of the least", y.weight(LEAST), LEAST);
        due.is("to the power 1: weight of the greatest", y.weight(GREATEST), GREATEST);
    }

    /** Promise 10: "(x to the power 0 being 1)". */
    private static void powerZeroIsOne() {
        for (int n = 1; n <= 5; n++) {
            SignMatrices x = new SignMatrices(n);
            due.is("size " + n + ": weight(0)", x.weight(0), FACTORIALS[n]);
            SignMatrices y = onlyTheDiagonalFits(n);
            for (int base : new int[] {LEAST, -1, 0, 1, GREATEST}) {
                due.is("size " + n + ", without -1: weight(" + base + ")", y.weight(base), 1);
            }
        }
        due.is("with a -1: weight(0)", mostNegativesAlone().weight(0), 0);
    }

    /** Promise 11: "How many fitting squares have an entry v at a place", none and all of them. */
    private static void havingAnEntryThatIsNotAllowed() {
        for (int n = 1; n <= 5; n++) {
            SignMatrices x = new SignMatrices(n);
            int inTheCorner = n == 1 ? 1 : COUNTS[n - 1];
            due.is("size " + n + ": having(0, 0, -1)", x.having(0, 0, -1), 0);
            due.is("size " + n + ": having(0, 0, 1)", x.having(0, 0, 1), inTheCorner);
            due.is("size " + n + ": having(0, 0, 0)", x.having(0, 0, 0), COUNTS[n] - inTheCorner);
            x.allow(0, 0, 4);
            due.is("size " + n + ", 1 alone: having(0, 0, 0)", x.having(0, 0, 0), 0);
            due.is("size " + n + ", 1 alone: having(0, 0, 1)", x.having(0, 0, 1), inTheCorner);
        }
    }

    /** Promise 13, from the least sum to the greatest. */
    private static void inversionsOfFirstAndLast() {
        for (int n = 1; n <= 5; n++) {
            SignMatrices x = new SignMatrices(n);
            due.is("size " + n + ": inversions(0)", x.inversions(0), n * (n - 1) / 2);
            due.is("size " + n + ": inversions of the last", x.inversions(COUNTS[n] - 1), 0);
        }
    }

    /** Promise 13: "r less than s and d less than c", so not in the same row or column. */
    private static void inversionsLeaveOutTheSameLine() {
        due.is("inversions(3)", new SignMatrices(3).inversions(3), 2);
        // Over all two rows the products make 10, of which the columns themselves have -1 for each
        // entry -1. So 14 are left, half of them on either side, the square being its own mirror.
        due.is("most -1 at size 5: inversions(0)", mostNegativesAlone().inversions(0), 7);
    }

    /** Promise 14: k and l may be the same, the first and the last. */
    private static void mixOfTheSameAndOfTheEnds() {
        for (int n = 1; n <= 5; n++) {
            int last = COUNTS[n] - 1;
            for (int which = 0; which <= 1; which++) {
                SignMatrices x = new SignMatrices(n);
                for (int k : new int[] {0, last / 2, last}) {
                    String of = "size " + n + ": mix of " + k + " with ";
                    due.is(of + "itself", x.mix(k, k, which), k);
                    due.is(of + "the last", x.mix(k, last, which), which == 0 ? last : k);
                    due.is(of + "the first", x.mix(0, k, which), which == 0 ? k : 0);
                }
            }
        }
    }

    /** Promise 14: "(there is always such a good square)", so with all allowed never -3. */
    private static void thereIsAlwaysAMix() {
        for (int n = 1; n <= 5; n++) {
            // At size 5 some are left out, to keep the test short; the first and the last are not.
            int step = n == 5 ? 4 : 1;
            for (int k = 0; k < COUNTS[n]; k += step) {
                SignMatrices x = new SignMatrices(n);
                for (int l = 0; l <= k; l += step) {
                    for (int which = 0; which <= 1; which++) {
                        int mix = x.mix(k, l, which);
                        String call = "size " + n + ": mix(" + k + ", " + l + ", " + which + ")";
                        due.holds(call + " is a number", mix >= 0 && mix < COUNTS[n]);
                        due.is(call + " the other way round", x.mix(l, k, which), mix);
                    }
                }
            }
        }
    }

    /** Promise 14: "it does not fit: -3". */
    private static void mixThatDoesNotFit() {
        SignMatrices x = new SignMatrices(3);
        // Of numbers 1 and 2 the greater sums are those of number 3, the lesser those of 0.
        due.is("mix(1, 2, 0)", x.mix(1, 2, 0), 3);
        due.is("mix(1, 2, 1)", x.mix(1, 2, 1), 0);
        x.allow(1, 1, 2);
        due.is("3 does not fit: mix(0, 1, 0)", x.mix(0, 1, 0), -3);
        due.is("0 does not fit: mix(0, 1, 1)", x.mix(0, 1, 1), -3);
        due.is("itself does fit: mix(1, 1, 0)", x.mix(1, 1, 0), 1);
        x.allow(1, 1, 3);
        due.is("3 fits again: mix(0, 1, 0)", x.mix(0, 1, 0), 2);
        due.is("0 does not: mix(0, 1, 1)", x.mix(0, 1, 1), -3);
        x.allow(1, 1, 7);
        due.is("the way back: mix(1, 2, 1)", x.mix(1, 2, 1), 0);
        // Three are left, numbers 1, 2 and 4 of all; number 3 was the fourth on the list before.
        x.allow(0, 0, 3);
        x.allow(1, 1, 2);
        due.is("three are left: count()", x.count(), 3);
        due.is("three are left: mix(0, 1, 0)", x.mix(0, 1, 0), -3);
    }

    /** Promise 15: e from 0 to 4 n - 1 at size 1, where one place has all outer edges. */
    private static void pathEndAtTheEnds() {
        SignMatrices x = new SignMatrices(1);
        int[] ends = {-2, -3, 3, -3, 1, -2};
        for (int e = -1; e <= 4; e++) {
            due.is("size 1: pathEnd(0, " + e + ")", x.pathEnd(0, e), ends[e + 1]);
        }
    }

    /**
     * Promise 16: a ring has no place at the border, so there is no room for one up to size 3, and
     * for no two at sizes 4 and 5. EdgesTest tells where all of them are.
     */
    private static void noRingsAndMostRings() {
        int[] sums = {0, 0, 0, 0, 1, 4 * 7 + 2 * 3};
        int[] most = {0, 0, 0, 0, 1, 1};
        for (int n = 1; n <= 5; n++) {
            SignMatrices x = new SignMatrices(n);
            int sum = 0;
            int greatest = 0;
            for (int k = 0; k < COUNTS[n]; k++) {
                int rings = x.rings(k);
                sum += rings;
                greatest = Math.max(greatest, rings);
            }
            due.is("size " + n + ": rings of all", sum, sums[n]);
            due.is("size " + n + ": most rings", greatest, most[n]);
        }
    }

    /** Terms: "the first one counting most"; the first digit is always 1, the last always 0. */
    private static void leastAndGreatestPattern() {
        for (int n = 1; n <= 5; n++) {
            SignMatrices x = new SignMatrices(n);
            int least = GREATEST;
            int greatest = LEAST;
            for (int k = 0; k < COUNTS[n]; k++) {
                int pattern = x.pattern(k);
                least = Math.min(least, pattern);
                greatest = Math.max(greatest, pattern);
            }
            int alternating = ((1 << 2 * n) - 1) / 3 * 2;
            due.is("size " + n + ": the least pattern", least, alternating);
            due.is("size " + n + ": the greatest pattern", greatest, (1 << n) - 1 << n);
            due.is("size " + n + ": pattern of the last", x.pattern(COUNTS[n] - 1), greatest);
        }
    }

    /** Promise 18: "How many fitting squares have a pattern.", 0 for all other numbers. */
    private static void patternsThatNoneHas() {
        for (int n = 1; n <= 5; n++) {
            SignMatrices x = new SignMatrices(n);
            int greatest = (1 << n) - 1 << n;
            int least = ((1 << 2 * n) - 1) / 3 * 2;
            // The last three are the greatest pattern with one more binary digit in front.
            for (int pattern : new int[] {LEAST, -1, 0, 1, least - 1, least + 1, greatest - 1,
                greatest + 1, 1 << 2 * n, GREATEST, greatest + (1 << 2 * n), greatest + 1024,
                greatest + LEAST}) {
                due.is("size " + n + ": withPattern(" + pattern + ")", x.withPattern(pattern), 0);
            }
            due.is("size " + n + ": withPattern(greatest)", x.withPattern(greatest), 1);
            x.allow(0, 0, 3);
            due.is("size " + n + ", the last gone: withPattern", x.withPattern(greatest), 0);
            x.allow(0, 0, 7);
            due.is("size " + n + ", and back: withPattern", x.withPattern(greatest), 1);
        }
        int[] ofTheLeast = {0, 1, 1, 2, 7, 42};
        for (int n = 1; n <= 5; n++) {
            int least = ((1 << 2 * n) - 1) / 3 * 2;
            String call = "size " + n + ": withPattern(" + least + ")";
            due.is(call, new SignMatrices(n).withPattern(least), ofTheLeast[n]);
        }
    }

    /** Promise 19: "which is not 0 or 1 (-2) is tested before whether the square fits (-3)." */
    private static void whichIsTestedBeforeTheFit() {
        SignMatrices x = new SignMatrices(3);
        x.allow(1, 1, 2);
        for (int which : new int[] {LEAST, -2, -1, 2, 3, GREATEST}) {
            due.is("mix(0, 1, " + which + ") does not fit either", x.mix(0, 1, which), -2);
            due.is("mix(4, 1, " + which + ")", x.mix(4, 1, which), -1);
            due.is("mix(0, -1, " + which + ")", x.mix(0, -1, which), -1);
        }
        due.is("mix(0, 1, 0)", x.mix(0, 1, 0), -3);
        due.is("mix(0, 1, 1)", x.mix(0, 1, 1), -3);
    }
}

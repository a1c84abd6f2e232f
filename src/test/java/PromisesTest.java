/**
 * Each promise of the document by itself, with fixed answers: by hand for sizes 1 to 3; where those
 * for sizes 4 and 5 are not told in a comment, CountingTest and EdgesTest reckon them.
 */
public final class PromisesTest {
    private static final Due due = new Due();
    private static final int LEAST = Integer.MIN_VALUE;
    private static final int GREATEST = Integer.MAX_VALUE;

    /** The seven good squares of size 3 in their order. */
    private static final int[][] THREES = {
        {0, 0, 1, 0, 1, 0, 1, 0, 0},
        {0, 0, 1, 1, 0, 0, 0, 1, 0},
        {0, 1, 0, 0, 0, 1, 1, 0, 0},
        {0, 1, 0, 1, -1, 1, 0, 1, 0},
        {0, 1, 0, 1, 0, 0, 0, 0, 1},
        {1, 0, 0, 0, 0, 1, 0, 1, 0},
        {1, 0, 0, 0, 1, 0, 0, 0, 1},
    };

    public static void main(String[] args) {
        promise1();
        promise2();
        promise3();
        promise4();
        promise5();
        promise6();
        promise7();
        promise8();
        promise9();
        promise10();
        promise11();
        promise12();
        promise13();
        promise14();
        promise15();
        promise16();
        promise17();
        promise18();
        promise19();
        due.end();
    }

    private static void putAll(SignMatrices x, int n, int... entries) {
        for (int i = 0; i < entries.length; i++) {
            due.is("put", x.put(i / n, i % n, entries[i]), 1);
        }
    }

    private static void promise1() {
        int[] sizes = {LEAST, -1, 0, 1, 2, 3, 4, 5, 6, 7, GREATEST};
        int[] clamped = {1, 1, 1, 1, 2, 3, 4, 5, 5, 5, 5};
        int[] counts = {0, 1, 2, 7, 42, 429};
        for (int i = 0; i < sizes.length; i++) {
            int n = clamped[i];
            String of = "1: new " + sizes[i] + ": ";
            SignMatrices x = new SignMatrices(sizes[i]);
            due.is(of + "count()", x.count(), counts[n]);
            due.is(of + "isGood()", x.isGood(), 0);
            due.is(of + "rank()", x.rank(), -2);
            for (int place = 0; place < n * n; place++) {
                due.is(of + "allow at " + place, x.allow(place / n, place % n, 7), 7);
            }
            due.is(of + "put beyond", x.put(n, 0, 0), -1);
            due.is(of + "put beyond", x.put(0, n, 0), -1);
        }
        SignMatrices y = new SignMatrices(3);
        due.is("1: put(0, 0, 1)", y.put(0, 0, 1), 1);
        due.is("1: put(1, 1, 1)", y.put(1, 1, 1), 1);
        due.is("1: put(2, 2, 1)", y.put(2, 2, 1), 1);
        due.is("1: all other entries were 0", y.rank(), 6);
        due.is("1: another object has its own state", new SignMatrices(3).rank(), -2);
    }

    private static void promise2() {
        SignMatrices x = new SignMatrices(3);
        for (int bad : new int[] {LEAST, -1, 3, 4, GREATEST}) {
            due.is("2: allow(" + bad + ", 0, 1)", x.allow(bad, 0, 1), -1);
            due.is("2: allow(0, " + bad + ", 1)", x.allow(0, bad, 1), -1);
            due.is("2: the place is tested first", x.allow(bad, 0, 0), -1);
        }
        for (int bad : new int[] {LEAST, -1, 0, 8, GREATEST}) {
            due.is("2: allow(0, 0, " + bad + ")", x.allow(0, 0, bad), -2);
        }
        due.is("2: refused calls change nothing", x.count(), 7);
        int[] counts = {0, 1, 4, 5, 2, 3, 6, 7};
        int before = 7;
        for (int set = 1; set <= 7; set++) {
            due.is("2: allow(1, 1, " + set + ")", x.allow(1, 1, set), before);
            due.is("2: count() with " + set + " in the middle", x.count(), counts[set]);
            before = set;
        }
        due.is("2: allow(0, 2, 4)", x.allow(0, 2, 4), 7);
        due.is("2: count()", x.count(), 2);
        due.is("2: allow(2, 0, 3)", x.allow(2, 0, 3), 7);
        due.is("2: count()", x.count(), 1);
        due.is("2: square number 0 is now 1 of all", x.entry(0, 1, 0), 1);
        due.is("2: allow(2, 0, 1)", x.allow(2, 0, 1), 3);
        due.is("2: count()", x.count(), 0);
        due.is("2: allow(2, 0, 7)", x.allow(2, 0, 7), 1);
        due.is("2: allow(0, 2, 7)", x.allow(0, 2, 7), 4);
        due.is("2: count()", x.count(), 7);
    }

    private static void promise3() {
        SignMatrices x = new SignMatrices(2);
        due.is("3: put(0, 1, 1)", x.put(0, 1, 1), 1);
        due.is("3: put(1, 0, 1)", x.put(1, 0, 1), 1);
        due.is("3: rank()", x.rank(), 0);
        for (int bad : new int[] {LEAST, -1, 2, 3, GREATEST}) {
            due.is("3: put(" + bad + ", 0, 1)", x.put(bad, 0, 1), -1);
            due.is("3: put(0, " + bad + ", 1)", x.put(0, bad, 1), -1);
            due.is("3: the place is tested first", x.put(0, bad, 2), -1);
        }
        for (int bad : new int[] {LEAST, -2, 2, GREATEST}) {
            due.is("3: put(0, 0, " + bad + ")", x.put(0, 0, bad), -2);
        }
        due.is("3: refused calls change nothing", x.rank(), 0);
        due.is("3: put(0, 0, -1)", x.put(0, 0, -1), 1);
        due.is("3: rank()", x.rank(), -2);
        due.is("3: put(0, 0, 0)", x.put(0, 0, 0), 1);
        due.is("3: rank()", x.rank(), 0);
        due.is("3: allow(0, 0, 4)", x.allow(0, 0, 4), 7);
        due.is("3: an entry that is not allowed may be put", x.put(0, 0, 0), 1);
    }

    private static void promise4() {
        SignMatrices x = new SignMatrices(3);
        due.is("4: load(3)", x.load(3), 1);
        for (int bad : new int[] {LEAST, -1, 7, 8, GREATEST}) {
            due.is("4: load(" + bad + ")", x.load(bad), -1);
            due.is("4: a refused call changes nothing", x.rank(), 3);
        }
        due.is("4: put(1, 1, 0)", x.put(1, 1, 0), 1);
        due.is("4: load makes a copy", x.entry(3, 1, 1), -1);
        for (int k = 0; k < 7; k++) {
            due.is("4: load(" + k + ")", x.load(k), 1);
            due.is("4: rank()", x.rank(), k);
        }
        due.is("4: allow(1, 1, 1)", x.allow(1, 1, 1), 7);
        due.is("4: load(1) with one square left", x.load(1), -1);
        due.is("4: load(0) with one square left", x.load(0), 1);
        due.is("4: allow(1, 1, 7)", x.allow(1, 1, 7), 1);
        due.is("4: it was the one with -1", x.rank(), 3);
    }

    private static void promise5() {
        int[] counts = {0, 1, 2, 7, 42, 429};
        for (int n = 1; n <= 5; n++) {
            SignMatrices x = new SignMatrices(n);
            due.is("5: count() at size " + n, x.count(), counts[n]);
            due.is("5: allow(0, 0, 4)", x.allow(0, 0, 4), 7);
            due.is("5: count() with 1 in the corner", x.count(), n == 1 ? 1 : counts[n - 1]);
            due.is("5: allow(0, 0, 1)", x.allow(0, 0, 1), 4);
            due.is("5: count() with -1 in the corner", x.count(), 0);
        }
    }

    private static void promise6() {
        SignMatrices x = new SignMatrices(3);
        for (int k = 0; k < 7; k++) {
            for (int place = 0; place < 9; place++) {
                String call = "6: entry(" + k + ", " + place / 3 + ", " + place % 3 + ")";
                due.is(call, x.entry(k, place / 3, place % 3), THREES[k][place]);
            }
        }
        for (int bad : new int[] {LEAST, -1, 7, GREATEST}) {
            due.is("6: entry(" + bad + ", 0, 0)", x.entry(bad, 0, 0), -9);
            due.is("6: the number is tested first", x.entry(bad, 3, 3), -9);
        }
        for (int bad : new int[] {LEAST, -1, 3, GREATEST}) {
            due.is("6: entry(0, " + bad + ", 0)", x.entry(0, bad, 0), -8);
            due.is("6: entry(0, 0, " + bad + ")", x.entry(0, 0, bad), -8);
        }
        due.is("6: allow(0, 2, 2)", x.allow(0, 2, 2), 7);
        due.is("6: number 0 is the first that fits", x.entry(0, 0, 1), 1);
        due.is("6: entry(4, 2, 2)", x.entry(4, 2, 2), 1);
        due.is("6: entry(5, 0, 0)", x.entry(5, 0, 0), -9);
    }

    private static void promise7() {
        for (int[] square : THREES) {
            SignMatrices x = new SignMatrices(3);
            putAll(x, 3, square);
            due.is("7: isGood()", x.isGood(), 1);
            for (int place = 0; place < 9; place++) {
                for (int v = -1; v <= 1; v++) {
                    due.is("7: put", x.put(place / 3, place % 3, v), 1);
                    due.is("7: isGood() with one put", x.isGood(), v == square[place] ? 1 : 0);
                }
                due.is("7: put", x.put(place / 3, place % 3, square[place]), 1);
            }
        }
        int[][] bad = {
            {0, 0, 0, 0, 0, 0, 0, 0, 0},
            {1, -1, 1, 0, 1, 0, 0, 1, 0},
            {1, 0, 0, -1, 1, 1, 1, 0, 0},
            {-1, 1, 1, 1, 0, 0, 1, 0, 0},
            {1, 1, -1, 0, 0, 1, 0, 0, 1},
            {1, 0, 0, 1, 0, 0, -1, 1, 1},
            {1, 0, 0, 1, 0, 0, 1, 0, 0},
            {1, 1, 1, 0, 0, 0, 0, 0, 0},
        };
        for (int i = 0; i < bad.length; i++) {
            SignMatrices x = new SignMatrices(3);
            putAll(x, 3, bad[i]);
            due.is("7: isGood() of bad square " + i, x.isGood(), 0);
        }
        SignMatrices y = new SignMatrices(2);
        putAll(y, 2, 1, 0, 0, 1);
        due.is("7: allow(0, 0, 2)", y.allow(0, 0, 2), 7);
        due.is("7: a square that does not fit may be good", y.isGood(), 1);
    }

    private static void promise8() {
        SignMatrices x = new SignMatrices(3);
        due.is("8: rank() of zeros", x.rank(), -2);
        for (int k = 0; k < 7; k++) {
            putAll(x, 3, THREES[k]);
            due.is("8: rank()", x.rank(), k);
        }
        due.is("8: allow(1, 1, 6)", x.allow(1, 1, 6), 7);
        due.is("8: rank() with one before it gone", x.rank(), 5);
        due.is("8: allow(2, 2, 3)", x.allow(2, 2, 3), 7);
        due.is("8: rank() of a good one that does not fit", x.rank(), -2);
        due.is("8: isGood()", x.isGood(), 1);
    }

    private static void promise9() {
        int[][] due9 = {{}, {1}, {2}, {6, 1}, {24, 16, 2}, {120, 200, 94, 14, 1}};
        for (int n = 1; n <= 5; n++) {
            SignMatrices x = new SignMatrices(n);
            for (int j = -2; j <= 26; j++) {
                int want = j >= 0 && j < due9[n].length ? due9[n][j] : 0;
                due.is("9: size " + n + ": negatives(" + j + ")", x.negatives(j), want);
            }
            due.is("9: negatives of the least j", x.negatives(LEAST), 0);
            due.is("9: negatives of the greatest j", x.negatives(GREATEST), 0);
        }
        SignMatrices y = new SignMatrices(3);
        due.is("9: allow(1, 1, 5)", y.allow(1, 1, 5), 7);
        due.is("9: negatives(0)", y.negatives(0), 2);
        due.is("9: negatives(1)", y.negatives(1), 1);
    }

    private static void promise10() {
        SignMatrices x = new SignMatrices(5);
        due.is("10: weight(0)", x.weight(0), 120);
        due.is("10: weight(1)", x.weight(1), 429);
        due.is("10: weight(2)", x.weight(2), 1024);
        due.is("10: weight(-1)", x.weight(-1), 120 - 200 + 94 - 14 + 1);
        long unwrapped = 120 + 200000L + 94000000L + 14000000000L + 1000000000000L;
        due.is("10: weight(1000) wraps", x.weight(1000), (int) unwrapped);
        due.is("10: weight(65536)", x.weight(65536), 120 + 200 * 65536);
        due.is("10: weight of the least x", x.weight(LEAST), 120);
        // The greatest x is -1 and 2 to the power 31; here the latter's multiples all wrap to 0.
        due.is("10: weight of the greatest x", x.weight(GREATEST), 1);
        due.is("10: allow(0, 0, 1)", x.allow(0, 0, 1), 7);
        due.is("10: weight(2) of no square", x.weight(2), 0);
        SignMatrices y = new SignMatrices(3);
        due.is("10: allow(1, 1, 1)", y.allow(1, 1, 1), 7);
        due.is("10: weight(-7)", y.weight(-7), -7);
        due.is("10: weight(0) of one with a -1", y.weight(0), 0);
    }

    private static void promise11() {
        SignMatrices x = new SignMatrices(3);
        int[][] ones = {{2, 3, 2}, {3, 2, 3}, {2, 3, 2}};
        for (int r = 0; r < 3; r++) {
            for (int c = 0; c < 3; c++) {
                String at = "11: having(" + r + ", " + c + ", ";
                int minus = r == 1 && c == 1 ? 1 : 0;
                due.is(at + "1)", x.having(r, c, 1), ones[r][c]);
                due.is(at + "-1)", x.having(r, c, -1), minus);
                due.is(at + "0)", x.having(r, c, 0), 7 - minus - ones[r][c]);
            }
        }
        for (int bad : new int[] {LEAST, -1, 3, GREATEST}) {
            due.is("11: having(" + bad + ", 0, 0)", x.having(bad, 0, 0), -1);
            due.is("11: having(0, " + bad + ", 0)", x.having(0, bad, 0), -1);
            due.is("11: the place is tested first", x.having(0, bad, 2), -1);
        }
        for (int bad : new int[] {LEAST, -2, 2, GREATEST}) {
            due.is("11: having(0, 0, " + bad + ")", x.having(0, 0, bad), -2);
        }
        due.is("11: allow(0, 0, 4)", x.allow(0, 0, 4), 7);
        due.is("11: having(0, 0, 0)", x.having(0, 0, 0), 0);
        due.is("11: having(2, 2, 1)", x.having(2, 2, 1), 1);
    }

    private static void promise12() {
        SignMatrices x = new SignMatrices(3);
        int[] sums = {0, 1, 1, 1, 1, 2, 1, 2, 3};
        for (int place = 0; place < 9; place++) {
            due.is("12: corner(3, ..) at " + place, x.corner(3, place / 3, place % 3), sums[place]);
        }
        due.is("12: corner(0, 0, 2)", x.corner(0, 0, 2), 1);
        due.is("12: corner(0, 2, 0)", x.corner(0, 2, 0), 1);
        due.is("12: corner(0, 1, 1)", x.corner(0, 1, 1), 1);
        due.is("12: corner(1, 2, 1)", x.corner(1, 2, 1), 2);
        due.is("12: corner(2, 1, 2)", x.corner(2, 1, 2), 2);
        for (int bad : new int[] {LEAST, -1, 7, GREATEST}) {
            due.is("12: corner(" + bad + ", 0, 0)", x.corner(bad, 0, 0), -1);
            due.is("12: the number is tested first", x.corner(bad, 3, 0), -1);
        }
        for (int bad : new int[] {LEAST, -1, 3, GREATEST}) {
            due.is("12: corner(0, " + bad + ", 0)", x.corner(0, bad, 0), -2);
            due.is("12: corner(0, 0, " + bad + ")", x.corner(0, 0, bad), -2);
        }
        due.is("12: allow(0, 2, 2)", x.allow(0, 2, 2), 7);
        due.is("12: corner(0, 0, 1) of the first that fits", x.corner(0, 0, 1), 1);
        due.is("12: corner(1, 1, 0) of the second that fits", x.corner(1, 1, 0), 1);
        due.is("12: corner(5, 0, 0)", x.corner(5, 0, 0), -1);
    }

    private static void promise13() {
        int[] inversions = {3, 2, 2, 2, 1, 1, 0};
        SignMatrices x = new SignMatrices(3);
        for (int k = 0; k < 7; k++) {
            due.is("13: inversions(" + k + ")", x.inversions(k), inversions[k]);
        }
        for (int bad : new int[] {LEAST, -1, 7, GREATEST}) {
            due.is("13: inversions(" + bad + ")", x.inversions(bad), -1);
        }
        due.is("13: allow(0, 2, 2)", x.allow(0, 2, 2), 7);
        for (int k = 0; k < 5; k++) {
            due.is("13: inversions(" + k + ") of those that fit", x.inversions(k), inversions[k + 2]);
        }
        due.is("13: inversions(5)", x.inversions(5), -1);
        SignMatrices y = new SignMatrices(5);
        due.is("13: size 5: inversions(0)", y.inversions(0), 10);
        due.is("13: size 5: inversions(428)", y.inversions(428), 0);
        due.is("13: size 1: inversions(0)", new SignMatrices(1).inversions(0), 0);
    }

    private static void promise14() {
        SignMatrices x = new SignMatrices(3);
        due.is("14: mix(1, 2, 0)", x.mix(1, 2, 0), 3);
        due.is("14: mix(1, 2, 1)", x.mix(1, 2, 1), 0);
        due.is("14: mix(4, 5, 0)", x.mix(4, 5, 0), 6);
        due.is("14: mix(4, 5, 1)", x.mix(4, 5, 1), 3);
        for (int k = 0; k < 7; k++) {
            due.is("14: mix with the first, lesser", x.mix(k, 0, 1), 0);
            due.is("14: mix with the first, greater", x.mix(0, k, 0), k);
            due.is("14: mix with the last, greater", x.mix(k, 6, 0), 6);
            due.is("14: mix with itself", x.mix(k, k, k % 2), k);
        }
        due.is("14: allow(1, 1, 6)", x.allow(1, 1, 6), 7);
        due.is("14: mix(1, 2, 0) where the answer does not fit", x.mix(1, 2, 0), -3);
        due.is("14: mix(3, 4, 1) where the answer does not fit", x.mix(3, 4, 1), -3);
        due.is("14: mix(3, 4, 0)", x.mix(3, 4, 0), 5);
        for (int bad : new int[] {LEAST, -1, 6, GREATEST}) {
            due.is("14: mix(" + bad + ", 0, 0)", x.mix(bad, 0, 0), -1);
            due.is("14: mix(0, " + bad + ", 0)", x.mix(0, bad, 0), -1);
        }
        for (int bad : new int[] {LEAST, -1, 2, GREATEST}) {
            due.is("14: mix(0, 0, " + bad + ")", x.mix(0, 0, bad), -2);
        }
    }

    private static void promise15() {
        SignMatrices x = new SignMatrices(2);
        int[][] ends = {{-3, 3, -3, 1, -3, 7, -3, 5}, {-3, 7, -3, 5, -3, 3, -3, 1}};
        for (int k = 0; k < 2; k++) {
            for (int e = 0; e < 8; e++) {
                due.is("15: pathEnd(" + k + ", " + e + ")", x.pathEnd(k, e), ends[k][e]);
            }
        }
        for (int bad : new int[] {LEAST, -1, 2, GREATEST}) {
            due.is("15: pathEnd(" + bad + ", 1)", x.pathEnd(bad, 1), -1);
            due.is("15: the number is tested first", x.pathEnd(bad, 8), -1);
            due.is("15: the number is tested first", x.pathEnd(bad, 0), -1);
        }
        for (int bad : new int[] {LEAST, -1, 8, 9, GREATEST}) {
            due.is("15: pathEnd(0, " + bad + ")", x.pathEnd(0, bad), -2);
        }
        due.is("15: allow(0, 0, 4)", x.allow(0, 0, 4), 7);
        for (int e = 0; e < 8; e++) {
            due.is("15: pathEnd(0, " + e + ") of the one that fits", x.pathEnd(0, e), ends[1][e]);
        }
        due.is("15: pathEnd(1, 1)", x.pathEnd(1, 1), -1);
        // The paths of the diagonal lie one inside the other.
        SignMatrices y = new SignMatrices(4);
        for (int e = 0; e < 16; e++) {
            int nested = e % 2 == 0 ? -3 : 16 - e;
            due.is("15: size 4: pathEnd(41, " + e + ")", y.pathEnd(41, e), nested);
        }
    }

    private static void promise16() {
        int[] ringed = {0, 0, 0, 0, 1};
        for (int n = 1; n <= 4; n++) {
            SignMatrices x = new SignMatrices(n);
            int all = 0;
            for (int k = 0; k < x.count(); k++) {
                all += x.rings(k);
            }
            due.is("16: rings of all squares of size " + n, all, ringed[n]);
            due.is("16: rings(-1)", x.rings(-1), -1);
        }
        SignMatrices y = new SignMatrices(4);
        putAll(y, 4, 0, 0, 1, 0, 1, 0, 0, 0, 0, 0, 0, 1, 0, 1, 0, 0);
        // Before it come 7 squares with the first row 0 0 0 1. With 0 0 1 0 above them, the second
        // rows 0 0 0 1, 0 1 -1 1, 0 1 0 0 and 1 0 -1 1 are less than 1 0 0 0: then the fourth row
        // may have its 1 in 2, 3, 4 and 2 columns. Of the third rows that may follow, its is least.
        due.is("16: rank()", y.rank(), 7 + 2 + 3 + 4 + 2);
        due.is("16: the ring in the middle of size 4", y.rings(18), 1);
        due.is("16: rings(42)", y.rings(42), -1);
        due.is("16: rings of the least k", y.rings(LEAST), -1);
        due.is("16: rings of the greatest k", y.rings(GREATEST), -1);
        due.is("16: allow(0, 3, 2)", y.allow(0, 3, 2), 7);
        due.is("16: its number when the first 7 do not fit", y.rank(), 11);
        due.is("16: rings(11)", y.rings(11), 1);
        due.is("16: rings(18)", y.rings(18), 0);
    }

    private static void promise17() {
        due.is("17: size 1: pattern(0)", new SignMatrices(1).pattern(0), 0b10);
        SignMatrices x = new SignMatrices(2);
        due.is("17: size 2: pattern(0)", x.pattern(0), 0b1010);
        due.is("17: size 2: pattern(1)", x.pattern(1), 0b1100);
        for (int bad : new int[] {LEAST, -1, 2, GREATEST}) {
            due.is("17: pattern(" + bad + ")", x.pattern(bad), -1);
        }
        SignMatrices y = new SignMatrices(3);
        due.is("17: size 3: pattern(0)", y.pattern(0), 0b101100);
        due.is("17: size 3: pattern(3)", y.pattern(3), 0b110010);
        due.is("17: size 3: pattern(6)", y.pattern(6), 0b111000);
        due.is("17: allow(0, 2, 2)", y.allow(0, 2, 2), 7);
        due.is("17: pattern(1) of those that fit", y.pattern(1), 0b110010);
        due.is("17: pattern(4) of those that fit", y.pattern(4), 0b111000);
        due.is("17: pattern(5)", y.pattern(5), -1);
        due.is("17: size 4: pattern(18)", new SignMatrices(4).pattern(18), 0b10101010);
        due.is("17: size 5: pattern(428)", new SignMatrices(5).pattern(428), 0b1111100000);
    }

    private static void promise18() {
        SignMatrices x = new SignMatrices(3);
        int[] patterns = {0b101010, 0b101100, 0b110010, 0b110100, 0b111000};
        int[] found = {2, 1, 1, 2, 1};
        int all = 0;
        for (int p = -1; p <= 64; p++) {
            int want = 0;
            for (int i = 0; i < patterns.length; i++) {
                want = patterns[i] == p ? found[i] : want;
            }
            due.is("18: withPattern(" + p + ")", x.withPattern(p), want);
            all += want;
        }
        due.is("18: all patterns together", all, x.count());
        due.is("18: withPattern of the least number", x.withPattern(LEAST), 0);
        due.is("18: withPattern of the greatest number", x.withPattern(GREATEST), 0);
        due.is("18: allow(0, 0, 4)", x.allow(0, 0, 4), 7);
        due.is("18: withPattern(44) of those that fit", x.withPattern(0b101100), 0);
        due.is("18: withPattern(56) of those that fit", x.withPattern(0b111000), 1);
        // Turning a pattern by one outer edge keeps how many squares have it.
        SignMatrices y = new SignMatrices(5);
        due.is("18: size 5: withPattern(1010101010)", y.withPattern(0b1010101010), 42);
        due.is("18: size 5: withPattern(1101010100)", y.withPattern(0b1101010100), 42);
        due.is("18: size 5: withPattern(1111100000)", y.withPattern(0b1111100000), 1);
        due.is("18: size 5: withPattern(1111000010)", y.withPattern(0b1111000010), 1);
        due.is("18: size 5: withPattern(0)", y.withPattern(0), 0);
    }

    private static void promise19() {
        SignMatrices x = new SignMatrices(3);
        due.is("19: allow(1, 1, 6)", x.allow(1, 1, 6), 7);
        due.is("19: mix(1, 2, 0)", x.mix(1, 2, 0), -3);
        due.is("19: which is tested before the fit", x.mix(1, 2, 2), -2);
        due.is("19: which is tested before the fit", x.mix(1, 2, -1), -2);
        due.is("19: the numbers are tested before which", x.mix(6, 2, 2), -1);
        due.is("19: the numbers are tested before which", x.mix(1, 6, 2), -1);
        due.is("19: the numbers are tested before which", x.mix(-1, -1, -1), -1);
    }
}

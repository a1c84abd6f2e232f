/**
 * The sets of promise 2 under which no square fits any more: what the calls answer on an empty
 * list, at every size, and that all squares come back when all entries are allowed again.
 */
public final class EmptyListTest {
    private static final Due due = new Due();
    private static final int[] COUNTS = {0, 1, 2, 7, 42, 429};
    private static final int[] NUMBERS = {Integer.MIN_VALUE, -1, 0, 1, 428, 429, Integer.MAX_VALUE};

    private static int n;
    private static SignMatrices x;
    private static String of;

    public static void main(String[] args) {
        for (n = 1; n <= 5; n++) {
            int ways = n == 1 ? 5 : 7;
            for (int way = 0; way < ways; way++) {
                of = "size " + n + ", emptied in way " + way + ": ";
                x = new SignMatrices(n);
                diagonalAtHand();
                empty(way);
                emptyList();
                wayBack();
            }
        }
        due.end();
    }

    private static void diagonalAtHand() {
        for (int i = 0; i < n; i++) {
            due.is(of + "put", x.put(i, i, 1), 1);
        }
    }

    private static void allowed(int r, int c, int set) {
        due.is(of + "allow(" + r + ", " + c + ", " + set + ")", x.allow(r, c, set), 7);
    }

    /** Each way leaves an entry at every place; it is the places together that no square fits. */
    private static void empty(int way) {
        switch (way) {
            case 0: // -1 alone in a corner
                allowed(0, 0, 1);
                break;
            case 1: // -1 alone at the end of the last row
                allowed(n - 1, n - 1, 1);
                break;
            case 2: // 0 alone in all of the last column
                for (int r = 0; r < n; r++) {
                    allowed(r, n - 1, 2);
                }
                break;
            case 3: // -1 and 0 in all of the first row
                for (int c = 0; c < n; c++) {
                    allowed(0, c, 3);
                }
                break;
            case 4: // -1 alone everywhere
                for (int place = 0; place < n * n; place++) {
                    allowed(place / n, place % n, 1);
                }
                break;
            case 5: // 1 alone at two places of the first row
                allowed(0, 0, 4);
                allowed(0, n - 1, 4);
                break;
            default: // -1 and 1 at two places of the first column, where no -1 can be
                allowed(0, 0, 5);
                allowed(n - 1, 0, 5);
        }
    }

    private static void emptyList() {
        count();
        load();
        entry();
        rank();
        negatives();
        weight();
        having();
        corner();
        inversions();
        mix();
        pathEnd();
        rings();
        pattern();
        withPattern();
        rank();
    }

    /** Promise 5 on an empty list. */
    private static void count() {
        due.is(of + "count()", x.count(), 0);
    }

    /** Promise 4 on an empty list: "There is none: -1." */
    private static void load() {
        for (int k : NUMBERS) {
            due.is(of + "load(" + k + ")", x.load(k), -1);
        }
    }

    /** Promise 6 on an empty list: "no such square: -9", whatever the place. */
    private static void entry() {
        for (int k : NUMBERS) {
            due.is(of + "entry(" + k + ", 0, 0)", x.entry(k, 0, 0), -9);
        }
        due.is(of + "entry(0, -1, n)", x.entry(0, -1, n), -9);
    }

    /** Promise 8: "-2 if it does not fit", though the square at hand is still good. */
    private static void rank() {
        due.is(of + "rank()", x.rank(), -2);
        due.is(of + "isGood()", x.isGood(), 1);
    }

    /** Promise 9: "(0 for a j that none has.)" */
    private static void negatives() {
        for (int j : NUMBERS) {
            due.is(of + "negatives(" + j + ")", x.negatives(j), 0);
        }
    }

    /** Promise 10: a sum over no square is 0, also where x to the power 0 would be 1. */
    private static void weight() {
        for (int base : NUMBERS) {
            due.is(of + "weight(" + base + ")", x.weight(base), 0);
        }
    }

    /** Promise 11 on an empty list; wrong arguments are refused all the same. */
    private static void having() {
        for (int v = -1; v <= 1; v++) {
            due.is(of + "having(0, 0, " + v + ")", x.having(0, 0, v), 0);
            due.is(of + "having(n - 1, 0, " + v + ")", x.having(n - 1, 0, v), 0);
        }
        due.is(of + "having(n, 0, 0)", x.having(n, 0, 0), -1);
        due.is(of + "having(0, -1, 2)", x.having(0, -1, 2), -1);
        due.is(of + "having(0, 0, 2)", x.having(0, 0, 2), -2);
        due.is(of + "having(0, 0, -2)", x.having(0, 0, -2), -2);
    }

    /** Promise 12 on an empty list: -1, tested first. */
    private static void corner() {
        for (int k : NUMBERS) {
            due.is(of + "corner(" + k + ", 0, 0)", x.corner(k, 0, 0), -1);
        }
        due.is(of + "corner(0, -1, n)", x.corner(0, -1, n), -1);
    }

    /** Promise 13 on an empty list: -1. */
    private static void inversions() {
        for (int k : NUMBERS) {
            due.is(of + "inversions(" + k + ")", x.inversions(k), -1);
        }
    }

    /** Promise 14 on an empty list: -1, tested first, not -2 and not -3. */
    private static void mix() {
        for (int k : NUMBERS) {
            due.is(of + "mix(" + k + ", 0, 0)", x.mix(k, 0, 0), -1);
            due.is(of + "mix(0, " + k + ", 1)", x.mix(0, k, 1), -1);
        }
        due.is(of + "mix(0, 0, 2)", x.mix(0, 0, 2), -1);
        due.is(of + "mix(0, 0, -1)", x.mix(0, 0, -1), -1);
    }

    /** Promise 15 on an empty list: -1, tested first, not -2 and not -3. */
    private static void pathEnd() {
        for (int k : NUMBERS) {
            due.is(of + "pathEnd(" + k + ", 1)", x.pathEnd(k, 1), -1);
        }
        due.is(of + "pathEnd(0, -1)", x.pathEnd(0, -1), -1);
        due.is(of + "pathEnd(0, 0)", x.pathEnd(0, 0), -1);
        due.is(of + "pathEnd(0, 4 n)", x.pathEnd(0, 4 * n), -1);
    }

    /** Promise 16 on an empty list: -1. */
    private static void rings() {
        for (int k : NUMBERS) {
            due.is(of + "rings(" + k + ")", x.rings(k), -1);
        }
    }

    /** Promise 17 on an empty list: -1. */
    private static void pattern() {
        for (int k : NUMBERS) {
            due.is(of + "pattern(" + k + ")", x.pattern(k), -1);
        }
    }

    /** Promise 18 on an empty list: 0, also for the pattern that the diagonal has and for -1. */
    private static void withPattern() {
        for (int pattern : NUMBERS) {
            due.is(of + "withPattern(" + pattern + ")", x.withPattern(pattern), 0);
        }
        due.is(of + "withPattern of the diagonal's", x.withPattern(diagonalsPattern()), 0);
    }

    /** Its paths lie one inside the other: n digits 1, then n digits 0. */
    private static int diagonalsPattern() {
        return (1 << n) - 1 << n;
    }

    /** All squares are there again, under their numbers, and the square at hand was kept. */
    private static void wayBack() {
        for (int place = n * n - 1; place >= 0; place--) {
            int before = x.allow(place / n, place % n, 7);
            due.holds(of + "allow answers a set", before >= 1 && before <= 7);
        }
        for (int place = 0; place < n * n; place++) {
            due.is(of + "allow of what is allowed", x.allow(place / n, place % n, 7), 7);
        }
        int last = COUNTS[n] - 1;
        due.is(of + "back: count()", x.count(), last + 1);
        due.is(of + "back: rank()", x.rank(), last);
        due.is(of + "back: entry of the last", x.entry(last, n - 1, n - 1), 1);
        due.is(of + "back: entry of the first", x.entry(0, 0, n - 1), 1);
        due.is(of + "back: entry of one too many", x.entry(last + 1, 0, 0), -9);
        due.is(of + "back: pattern of the last", x.pattern(last), diagonalsPattern());
        due.is(of + "back: inversions of the first", x.inversions(0), n * (n - 1) / 2);
        due.is(of + "back: mix of the first and the last", x.mix(0, last, 0), last);
        due.is(of + "back: weight(1)", x.weight(1), last + 1);
        due.is(of + "back: load(0)", x.load(0), 1);
        due.is(of + "back: rank()", x.rank(), 0);
    }
}

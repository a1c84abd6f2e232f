import java.math.BigInteger;
import java.util.ArrayList;
import java.util.Arrays;
import java.util.List;
import java.util.Random;

/**
 * Promises 4 to 6 and 8 to 11 reckoned with no list of squares: the rows are counted one below the
 * other. What the rows above have left of a column is just whether its next entry other than 0
 * must be 1 or -1, so for each row and each such state the ways to go on are counted by how many
 * -1 they have.
 */
public final class CountingTest {
    private static final Due due = new Due();
    private static final int MOST_NEGATIVES = 25;
    private static final int[] BASES = {
        Integer.MIN_VALUE, -217, -2, -1, 0, 1, 2, 3, 212, 46341, 65536, Integer.MAX_VALUE};

    private final int n;
    private final int[][] allowed;

    /** All rows that alternate, the lesser ones first. */
    private final List<int[]> rows = new ArrayList<>();
    private final long[][][] known;
    private SignMatrices object;
    private int used;

    public static void main(String[] args) {
        for (int n = 1; n <= 5; n++) {
            new CountingTest(n, new int[n * n]).all();
        }
        Random random = new Random(8);
        for (int run = 0; run < 60; run++) {
            int n = 2 + run % 4;
            int[] leftOut = new int[n * n];
            for (int i = 0; i <= run % 7; i++) {
                leftOut[random.nextInt(n * n)] = random.nextInt(7);
            }
            new CountingTest(n, leftOut).all();
        }
        due.end();
    }

    private CountingTest(int n, int[] leftOut) {
        this.n = n;
        allowed = new int[n][n];
        for (int place = 0; place < n * n; place++) {
            allowed[place / n][place % n] = 7 - leftOut[place];
        }
        known = new long[n + 1][1 << n][];
        addRows(new int[n], 0);
    }

    private void addRows(int[] row, int c) {
        if (c == n) {
            if (alternates(row)) {
                rows.add(row.clone());
            }
            return;
        }
        for (int v = -1; v <= 1; v++) {
            row[c] = v;
            addRows(row, c + 1);
        }
    }

    /** "the entries other than 0 are 1, -1, 1, .., 1 in this order" and "there is at least one". */
    private static boolean alternates(int[] row) {
        int next = 1;
        for (int v : row) {
            if (v == -next) {
                return false;
            }
            next = v == 0 ? next : -v;
        }
        return next == -1;
    }

    /** An object is good for 512 calls. */
    private SignMatrices object() {
        if (object == null || used == 512) {
            object = new SignMatrices(n);
            for (int place = 0; place < n * n; place++) {
                object.allow(place / n, place % n, allowed[place / n][place % n]);
            }
            used = n * n;
        }
        used++;
        return object;
    }

    private String of(String call) {
        return "size " + n + ", allowed " + Arrays.deepToString(allowed) + ": " + call;
    }

    /** The columns whose sum is 1 below a row, or -1 if the row cannot stand there. */
    private int below(int r, int[] row, int columns) {
        int after = columns;
        for (int c = 0; c < n; c++) {
            if ((allowed[r][c] >> row[c] + 1) % 2 == 0) {
                return -1;
            }
            int next = (columns >> c) % 2 == 0 ? 1 : -1;
            if (row[c] == -next) {
                return -1;
            }
            after ^= row[c] == 0 ? 0 : 1 << c;
        }
        return after;
    }

    /** In how many ways the rows from r on can be filled, for each number of -1 in them. */
    private long[] ways(int r, int columns) {
        if (known[r][columns] != null) {
            return known[r][columns];
        }
        long[] found = new long[MOST_NEGATIVES + 1];
        if (r == n) {
            found[0] = columns == (1 << n) - 1 ? 1 : 0;
        } else {
            for (int[] row : rows) {
                int after = below(r, row, columns);
                int more = (int) Arrays.stream(row).filter(v -> v == -1).count();
                for (int j = more; after >= 0 && j <= MOST_NEGATIVES; j++) {
                    found[j] += ways(r + 1, after)[j - more];
                }
            }
        }
        known[r][columns] = found;
        return found;
    }

    private int count() {
        return sum(ways(0, 0));
    }

    private static int sum(long[] ways) {
        return (int) Arrays.stream(ways).sum();
    }

    /** "the fitting square with exactly k fitting ones before it" */
    private int[][] number(int k) {
        int[][] square = new int[n][];
        int before = 0;
        int columns = 0;
        for (int r = 0; r < n; r++) {
            for (int[] row : rows) {
                int after = below(r, row, columns);
                int here = after < 0 ? 0 : sum(ways(r + 1, after));
                if (k < before + here) {
                    square[r] = row;
                    columns = after;
                    break;
                }
                before += here;
            }
        }
        return square;
    }

    private void all() {
        due.is(of("count()"), object().count(), count());
        numbers();
        negatives();
        weights();
        having();
    }

    private void numbers() {
        due.is(of("load(count)"), object().load(count()), -1);
        for (int k = 0; k < count(); k++) {
            int[][] square = number(k);
            for (int place = 0; place < n * n; place++) {
                int r = place / n;
                int c = place % n;
                String call = of("entry(" + k + ", " + r + ", " + c + ")");
                due.is(call, object().entry(k, r, c), square[r][c]);
            }
            rank(k, square);
        }
    }

    /** All calls of one run are made on one object, so they begin on a new one. */
    private void rank(int k, int[][] square) {
        used = 512;
        SignMatrices x = object();
        for (int place = 0; place < n * n; place++) {
            due.is(of("put"), x.put(place / n, place % n, square[place / n][place % n]), 1);
        }
        due.is(of("rank()"), x.rank(), k);
        due.is(of("isGood()"), x.isGood(), 1);
        due.is(of("put"), x.put(0, 0, square[0][0] == 0 ? 1 : 0), 1);
        due.is(of("rank() of one that is not good"), x.rank(), -2);
        due.is(of("load(" + k + ")"), x.load(k), 1);
        due.is(of("rank() of what was loaded"), x.rank(), k);
        used = 512;
    }

    private void negatives() {
        for (int j = -1; j <= MOST_NEGATIVES; j++) {
            int want = j < 0 ? 0 : (int) ways(0, 0)[j];
            due.is(of("negatives(" + j + ")"), object().negatives(j), want);
        }
    }

    private void weights() {
        for (int base : BASES) {
            BigInteger want = BigInteger.ZERO;
            for (int j = 0; j <= MOST_NEGATIVES; j++) {
                BigInteger power = BigInteger.valueOf(base).pow(j);
                want = want.add(power.multiply(BigInteger.valueOf(ways(0, 0)[j])));
            }
            due.is(of("weight(" + base + ")"), object().weight(base), want.intValue());
        }
    }

    /** Those with an entry v at a place are those that fit when no other one is allowed there. */
    private void having() {
        for (int place = 0; place < n * n; place++) {
            for (int v = -1; v <= 1; v++) {
                int r = place / n;
                int c = place % n;
                int[] leftOut = new int[n * n];
                for (int i = 0; i < n * n; i++) {
                    leftOut[i] = 7 - allowed[i / n][i % n];
                }
                leftOut[place] |= 7 - (1 << v + 1);
                int want = new CountingTest(n, leftOut).count();
                String call = of("having(" + r + ", " + c + ", " + v + ")");
                due.is(call, object().having(r, c, v), want);
            }
        }
    }
}

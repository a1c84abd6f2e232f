import java.util.ArrayList;
import java.util.Arrays;
import java.util.HashMap;
import java.util.HashSet;
import java.util.List;
import java.util.Map;
import java.util.Set;

/**
 * The document read word by word, by other means than the program: good squares are put together
 * from good rows and sorted; edges are named by the two ends they join.
 */
final class Model {
    final int n;
    final int[][] allowed;
    int[][] hand;
    /** Found once for each size, since many models are made. */
    private static final Map<Integer, List<int[][]>> GOOD = new HashMap<>();
    private static final Map<int[][], Integer> PATTERNS = new HashMap<>();
    private final List<int[][]> good;
    private List<int[][]> fitting = new ArrayList<>();

    Model(int size) {
        n = Math.max(1, Math.min(5, size));
        allowed = new int[n][n];
        for (int[] row : allowed) {
            Arrays.fill(row, 7);
        }
        hand = new int[n][n];
        good = GOOD.computeIfAbsent(n, key -> goodSquares());
        refit();
    }

    private List<int[][]> goodSquares() {
        List<int[]> rows = new ArrayList<>();
        int combinations = (int) Math.pow(3, n);
        for (int code = 0; code < combinations; code++) {
            int[] row = new int[n];
            int rest = code;
            for (int c = 0; c < n; c++) {
                row[c] = rest % 3 - 1;
                rest /= 3;
            }
            if (alternates(row)) {
                rows.add(row);
            }
        }
        List<int[][]> found = new ArrayList<>();
        stack(rows, new int[n][], 0, found);
        found.sort(Model::compare);
        return found;
    }

    private void stack(List<int[]> rows, int[][] square, int r, List<int[][]> found) {
        if (r == n) {
            if (good(square)) {
                found.add(copy(square));
            }
            return;
        }
        for (int[] row : rows) {
            square[r] = row;
            stack(rows, square, r + 1, found);
        }
    }

    private static int[][] copy(int[][] square) {
        int[][] made = new int[square.length][];
        for (int r = 0; r < square.length; r++) {
            made[r] = square[r].clone();
        }
        return made;
    }

    static boolean alternates(int[] line) {
        int[] signs = Arrays.stream(line).filter(v -> v != 0).toArray();
        if (signs.length % 2 == 0) {
            return false;
        }
        for (int i = 0; i < signs.length; i++) {
            if (signs[i] != (i % 2 == 0 ? 1 : -1)) {
                return false;
            }
        }
        return true;
    }

    private boolean good(int[][] square) {
        for (int i = 0; i < n; i++) {
            int[] column = new int[n];
            for (int r = 0; r < n; r++) {
                column[r] = square[r][i];
            }
            if (!alternates(square[i]) || !alternates(column)) {
                return false;
            }
        }
        return true;
    }

    private static int compare(int[][] a, int[][] b) {
        for (int r = 0; r < a.length; r++) {
            int order = Arrays.compare(a[r], b[r]);
            if (order != 0) {
                return order;
            }
        }
        return 0;
    }

    private void refit() {
        fitting = new ArrayList<>();
        for (int[][] square : good) {
            boolean fits = true;
            for (int r = 0; r < n; r++) {
                for (int c = 0; c < n; c++) {
                    fits &= (allowed[r][c] & 1 << square[r][c] + 1) != 0;
                }
            }
            if (fits) {
                fitting.add(square);
            }
        }
    }

    private boolean noPlace(int r, int c) {
        return r < 0 || r >= n || c < 0 || c >= n;
    }

    private boolean noSquare(int k) {
        return k < 0 || k >= fitting.size();
    }

    int allow(int r, int c, int set) {
        if (noPlace(r, c)) return -1;
        if (set < 1 || set > 7) return -2;
        int old = allowed[r][c];
        allowed[r][c] = set;
        refit();
        return old;
    }

    int put(int r, int c, int v) {
        if (noPlace(r, c)) return -1;
        if (v < -1 || v > 1) return -2;
        hand[r][c] = v;
        return 1;
    }

    int load(int k) {
        if (noSquare(k)) return -1;
        hand = copy(fitting.get(k));
        return 1;
    }

    int count() {
        return fitting.size();
    }

    int entry(int k, int r, int c) {
        return noSquare(k) ? -9 : noPlace(r, c) ? -8 : fitting.get(k)[r][c];
    }

    int isGood() {
        return good(hand) ? 1 : 0;
    }

    private int numberOf(int[][] square) {
        for (int k = 0; k < fitting.size(); k++) {
            if (Arrays.deepEquals(fitting.get(k), square)) {
                return k;
            }
        }
        return -1;
    }

    int rank() {
        int k = numberOf(hand);
        return k < 0 ? -2 : k;
    }

    private static int minusOnes(int[][] square) {
        return (int) Arrays.stream(square).flatMapToInt(Arrays::stream).filter(v -> v == -1).count();
    }

    int negatives(int j) {
        return (int) fitting.stream().filter(s -> minusOnes(s) == j).count();
    }

    int weight(int x) {
        return fitting.stream()
                .map(s -> java.math.BigInteger.valueOf(x).pow(minusOnes(s)))
                .reduce(java.math.BigInteger.ZERO, java.math.BigInteger::add)
                .intValue();
    }

    int having(int r, int c, int v) {
        if (noPlace(r, c)) return -1;
        if (v < -1 || v > 1) return -2;
        return (int) fitting.stream().filter(s -> s[r][c] == v).count();
    }

    private static int cornerSum(int[][] square, int r, int c) {
        int sum = 0;
        for (int i = 0; i <= r; i++) {
            for (int j = 0; j <= c; j++) {
                sum += square[i][j];
            }
        }
        return sum;
    }

    int corner(int k, int r, int c) {
        return noSquare(k) ? -1 : noPlace(r, c) ? -2 : cornerSum(fitting.get(k), r, c);
    }

    int inversions(int k) {
        if (noSquare(k)) return -1;
        int[][] square = fitting.get(k);
        int sum = 0;
        for (int r = 0; r < n; r++)
            for (int c = 0; c < n; c++)
                for (int s = r + 1; s < n; s++)
                    for (int d = 0; d < c; d++) sum += square[r][c] * square[s][d];
        return sum;
    }

    int mix(int k, int l, int which) {
        if (noSquare(k) || noSquare(l)) return -1;
        if (which != 0 && which != 1) return -2;
        int[][] sums = new int[n + 1][n + 1];
        int[][] made = new int[n][n];
        for (int r = 0; r < n; r++) {
            for (int c = 0; c < n; c++) {
                int a = cornerSum(fitting.get(k), r, c);
                int b = cornerSum(fitting.get(l), r, c);
                sums[r + 1][c + 1] = which == 0 ? Math.max(a, b) : Math.min(a, b);
                made[r][c] = sums[r + 1][c + 1] - sums[r][c + 1] - sums[r + 1][c] + sums[r][c];
            }
        }
        if (!good(made)) throw new IllegalStateException("a mix is not good");
        int m = numberOf(made);
        return m < 0 ? -3 : m;
    }

    /** Joins the ends of the edges that are on: "r,c" for places, "e" for outer edges. */
    private Map<String, List<String>> paths(int[][] square) {
        Map<String, List<String>> joined = new HashMap<>();
        for (int r = 0; r < n; r++) {
            edge(joined, String.valueOf(3 * n + n - 1 - r), r + "," + 0, true);
            edge(joined, String.valueOf(r), "0," + r, false);
            int h = 0;
            int v = 0;
            for (int c = 0; c < n; c++) {
                h += square[r][c];
                String to = c < n - 1 ? r + "," + (c + 1) : String.valueOf(n + r);
                edge(joined, r + "," + c, to, h == 0);
                v += square[c][r];
                String under = c < n - 1 ? (c + 1) + "," + r : String.valueOf(2 * n + n - 1 - r);
                edge(joined, c + "," + r, under, v == 1);
            }
        }
        return joined;
    }

    private static void edge(Map<String, List<String>> joined, String a, String b, boolean leadsToB) {
        String from = leadsToB ? a : b;
        String to = leadsToB ? b : a;
        boolean intoEven = isPlace(to) && isEven(to);
        boolean outOfOdd = isPlace(from) && !isEven(from);
        if (intoEven || outOfOdd) {
            joined.computeIfAbsent(a, x -> new ArrayList<>()).add(b);
            joined.computeIfAbsent(b, x -> new ArrayList<>()).add(a);
        }
    }

    private static boolean isPlace(String end) {
        return end.contains(",");
    }

    private static boolean isEven(String place) {
        String[] at = place.split(",");
        return (Integer.parseInt(at[0]) + Integer.parseInt(at[1])) % 2 == 0;
    }

    private static Set<String> reach(Map<String, List<String>> joined, String from) {
        Set<String> seen = new HashSet<>(List.of(from));
        List<String> todo = new ArrayList<>(seen);
        while (!todo.isEmpty()) {
            for (String next : joined.get(todo.remove(0))) {
                if (seen.add(next)) {
                    todo.add(next);
                }
            }
        }
        return seen;
    }

    private static int otherEnd(Map<String, List<String>> joined, int e) {
        for (String end : reach(joined, String.valueOf(e))) {
            if (!isPlace(end) && Integer.parseInt(end) != e) {
                return Integer.parseInt(end);
            }
        }
        throw new IllegalStateException("a path has no other end");
    }

    int pathEnd(int k, int e) {
        if (noSquare(k)) return -1;
        if (e < 0 || e >= 4 * n) return -2;
        Map<String, List<String>> joined = paths(fitting.get(k));
        return joined.containsKey(String.valueOf(e)) ? otherEnd(joined, e) : -3;
    }

    int rings(int k) {
        if (noSquare(k)) return -1;
        Map<String, List<String>> joined = paths(fitting.get(k));
        Set<Set<String>> parts = new HashSet<>();
        for (String end : joined.keySet()) {
            if (isPlace(end) && joined.get(end).size() != 2) {
                throw new IllegalStateException("a place has not just two edges on");
            }
            Set<String> part = reach(joined, end);
            if (part.stream().allMatch(Model::isPlace)) {
                parts.add(part);
            }
        }
        return parts.size();
    }

    int pattern(int k) {
        return noSquare(k) ? -1 : patternOf(fitting.get(k));
    }

    private int patternOf(int[][] square) {
        return PATTERNS.computeIfAbsent(square, this::drawnPattern);
    }

    private int drawnPattern(int[][] square) {
        Map<String, List<String>> joined = paths(square);
        StringBuilder digits = new StringBuilder();
        for (int e = 0; e < 4 * n; e++) {
            if (joined.containsKey(String.valueOf(e))) {
                digits.append(otherEnd(joined, e) > e ? '1' : '0');
            }
        }
        if (digits.length() != 2 * n) throw new IllegalStateException("not 2 n outer edges are on");
        return Integer.parseInt(digits.toString(), 2);
    }

    int withPattern(int pattern) {
        return (int) fitting.stream().filter(s -> patternOf(s) == pattern).count();
    }
}

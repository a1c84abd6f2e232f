import java.util.ArrayList;
import java.util.Arrays;
import java.util.HashMap;
import java.util.List;
import java.util.Map;
import java.util.TreeMap;

/**
 * Promises 15 to 18 reckoned from the edges, with no square to begin with: "Every place has just
 * two edges that are on". So all sets of edges are gone through that have two at every place, with
 * the outer edges that are on in every good square. Such a set tells its square: a place with the
 * entry 0 has of its two edges in the row one that leads in and one that leads out, and so in the
 * column, which means that the path turns there; at an entry 1 both edges in the row lead in and
 * both in the column out, at an entry -1 the other way round, which means that the path goes
 * straight on.
 */
public final class EdgesTest {
    private static final Due due = new Due();
    private static final int[] COUNTS = {0, 1, 2, 7, 42, 429};

    private final int n;

    /** inRow[r][c] tells of the edge on the left of (r, c), inRow[r][n] of the last one. */
    private final boolean[][] inRow;

    /** inColumn[r][c] tells of the edge above (r, c), inColumn[n][c] of the last one. */
    private final boolean[][] inColumn;
    private final List<Drawing> drawings = new ArrayList<>();

    /** What is drawn by the edges of one square. */
    private record Drawing(int[] entries, int[] ends, List<List<Integer>> rings, int pattern) {}

    public static void main(String[] args) {
        for (int n = 1; n <= 5; n++) {
            EdgesTest test = new EdgesTest(n);
            test.draw(0);
            test.drawings.sort((a, b) -> Arrays.compare(a.entries(), b.entries()));
            test.everyDrawing();
            test.whereTheRingsAre();
            test.everyPattern();
            test.numbersOfThoseThatFit();
        }
        due.end();
    }

    /**
     * "the outer edges above lead up", so out of their places, and so do those below out, where v
     * is 1; "the outer edges on the left lead to the right", so into theirs, and so do those on the
     * right, where h is 1. On are those above and below odd places and beside even ones.
     */
    private EdgesTest(int n) {
        this.n = n;
        inRow = new boolean[n][n + 1];
        inColumn = new boolean[n + 1][n];
        for (int i = 0; i < n; i++) {
            inColumn[0][i] = i % 2 == 1;
            inColumn[n][i] = (n - 1 + i) % 2 == 1;
            inRow[i][0] = i % 2 == 0;
            inRow[i][n] = (n - 1 + i) % 2 == 0;
        }
    }

    private void draw(int place) {
        if (place == n * n) {
            drawings.add(new Drawing(entries(), ends(), rings(), pattern()));
            return;
        }
        int r = place / n;
        int c = place % n;
        for (int choice = 0; choice < 4; choice++) {
            boolean right = choice % 2 == 1;
            boolean below = choice / 2 == 1;
            boolean rightMay = c < n - 1 || right == inRow[r][n];
            boolean belowMay = r < n - 1 || below == inColumn[n][c];
            if (rightMay && belowMay && one(inRow[r][c]) + one(inColumn[r][c]) + one(right) + one(below) == 2) {
                inRow[r][c + 1] = right;
                inColumn[r + 1][c] = below;
                draw(place + 1);
            }
        }
    }

    private static int one(boolean on) {
        return on ? 1 : 0;
    }

    private int[] entries() {
        int[] made = new int[n * n];
        for (int place = 0; place < n * n; place++) {
            int r = place / n;
            int c = place % n;
            int sign = (r + c) % 2 == 0 ? 1 : -1;
            if (inRow[r][c] && inRow[r][c + 1]) {
                made[place] = sign;
            } else if (inColumn[r][c] && inColumn[r + 1][c]) {
                made[place] = -sign;
            }
        }
        return made;
    }

    /** Whether the edge of (r, c) on a side is on; the sides go clockwise from above. */
    private boolean isOn(int r, int c, int side) {
        boolean[] sides = {inColumn[r][c], inRow[r][c + 1], inColumn[r + 1][c], inRow[r][c]};
        return sides[side];
    }

    /** The places on the way from a side of (r, c) to an outer edge, or back; that edge is last. */
    private List<Integer> walk(int r, int c, int from) {
        List<Integer> way = new ArrayList<>();
        int[] down = {-1, 0, 1, 0};
        int[] right = {0, 1, 0, -1};
        int at = r;
        int in = c;
        int back = from;
        do {
            way.add(at * n + in);
            int side = 0;
            while (side == back || !isOn(at, in, side)) {
                side++;
            }
            at += down[side];
            in += right[side];
            back = (side + 2) % 4;
        } while (at >= 0 && at < n && in >= 0 && in < n && (at != r || in != c));
        way.add(at < 0 ? in : in == n ? n + at : at == n ? 3 * n - 1 - in : in < 0 ? 4 * n - 1 - at : -1);
        return way;
    }

    private List<Integer> walkFromOuter(int e) {
        int i = e % n;
        int side = e / n;
        int r = side == 0 ? 0 : side == 1 ? i : side == 2 ? n - 1 : n - 1 - i;
        int c = side == 0 ? i : side == 1 ? n - 1 : side == 2 ? n - 1 - i : 0;
        return isOn(r, c, side) ? walk(r, c, side) : List.of(-3);
    }

    private int[] ends() {
        int[] ends = new int[4 * n];
        for (int e = 0; e < 4 * n; e++) {
            List<Integer> way = walkFromOuter(e);
            ends[e] = way.get(way.size() - 1);
        }
        return ends;
    }

    /** What no path goes through is in rings. */
    private List<List<Integer>> rings() {
        boolean[] seen = new boolean[n * n];
        for (int e = 0; e < 4 * n; e++) {
            List<Integer> way = walkFromOuter(e);
            way.subList(0, way.size() - 1).forEach(place -> seen[place] = true);
        }
        List<List<Integer>> rings = new ArrayList<>();
        for (int place = 0; place < n * n; place++) {
            if (!seen[place]) {
                int side = 0;
                while (!isOn(place / n, place % n, side)) {
                    side++;
                }
                List<Integer> way = walk(place / n, place % n, side);
                due.is("a ring comes back", way.remove(way.size() - 1), -1);
                way.forEach(on -> seen[on] = true);
                way.sort(null);
                rings.add(way);
            }
        }
        return rings;
    }

    private int pattern() {
        int[] ends = ends();
        StringBuilder digits = new StringBuilder();
        for (int e = 0; e < 4 * n; e++) {
            if (ends[e] != -3) {
                digits.append(ends[e] > e ? '1' : '0');
            }
        }
        due.is("size " + n + ": outer edges that are on", digits.length(), 2 * n);
        return Integer.parseInt(digits.toString(), 2);
    }

    private void everyDrawing() {
        due.is("size " + n + ": drawings", drawings.size(), COUNTS[n]);
        for (int k = 0; k < drawings.size(); k++) {
            answers("size " + n, new SignMatrices(n), k, drawings.get(k));
        }
    }

    private void answers(String of, SignMatrices x, int k, Drawing drawn) {
        for (int place = 0; place < n * n; place++) {
            String call = of + ": entry(" + k + ", " + place / n + ", " + place % n + ")";
            due.is(call, x.entry(k, place / n, place % n), drawn.entries()[place]);
        }
        for (int e = 0; e < 4 * n; e++) {
            due.is(of + ": pathEnd(" + k + ", " + e + ")", x.pathEnd(k, e), drawn.ends()[e]);
        }
        due.is(of + ": rings(" + k + ")", x.rings(k), drawn.rings().size());
        due.is(of + ": pattern(" + k + ")", x.pattern(k), drawn.pattern());
    }

    /**
     * Of two neighbours at the border one has its outer edge on, and of a ring's places at the
     * border some two are neighbours; so a ring has no place there. At size 4 it is the four in the
     * middle; at size 5 seven squares have one round each of the four cells in the middle, and
     * three each round the upper and the lower two of them: 34 rings.
     */
    private void whereTheRingsAre() {
        Map<String, Integer> found = new TreeMap<>();
        for (Drawing drawn : drawings) {
            for (List<Integer> ring : drawn.rings()) {
                found.merge(ring.toString(), 1, Integer::sum);
            }
        }
        Map<String, Integer> want = new TreeMap<>();
        if (n == 4) {
            want.put("[5, 6, 9, 10]", 1);
        }
        if (n == 5) {
            want.put("[6, 7, 11, 12]", 7);
            want.put("[7, 8, 12, 13]", 7);
            want.put("[11, 12, 16, 17]", 7);
            want.put("[12, 13, 17, 18]", 7);
            want.put("[6, 7, 8, 11, 12, 13]", 3);
            want.put("[11, 12, 13, 16, 17, 18]", 3);
        }
        due.holds("size " + n + ": the rings are " + want + ", found " + found, found.equals(want));
    }

    private void everyPattern() {
        Map<Integer, Integer> found = new HashMap<>();
        for (Drawing drawn : drawings) {
            found.merge(drawn.pattern(), 1, Integer::sum);
        }
        SignMatrices x = new SignMatrices(n);
        for (int pattern = -1; pattern <= 1 << 2 * n; pattern++) {
            if (pattern % 512 == 511) {
                x = new SignMatrices(n);
            }
            String call = "size " + n + ": withPattern(" + pattern + ")";
            due.is(call, x.withPattern(pattern), found.getOrDefault(pattern, 0));
        }
    }

    /** The same drawings under the numbers that they have when not all entries are allowed. */
    private void numbersOfThoseThatFit() {
        for (int place = 0; place < n * n; place++) {
            for (int set = 1; set < 7; set++) {
                int k = 0;
                for (Drawing drawn : drawings) {
                    if ((set >> drawn.entries()[place] + 1) % 2 == 1) {
                        if (n < 5 || !drawn.rings().isEmpty()) {
                            SignMatrices x = new SignMatrices(n);
                            x.allow(place / n, place % n, set);
                            answers("size " + n + ", the set " + set + " at " + place, x, k, drawn);
                        }
                        k++;
                    }
                }
            }
        }
    }
}

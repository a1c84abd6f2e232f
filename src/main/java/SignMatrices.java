/**
 * Squares of the numbers -1, 0 and 1 whose signs alternate along every row and column, their
 * order, their corner sums, and the paths they draw.
 *
 * <p>There are so few good squares (429 at the greatest size) that all of them are found once, in
 * their order, and the calls look through those that fit.
 */
public final class SignMatrices {
    private static final int GREATEST_SIZE = 5;
    private static final int MOST_PLACES = 25;
    private static final int MOST_SQUARES = 429;
    private static final int MOST_ENTRIES = 10725;

    /** Far above what the search takes at the greatest size, some 18,000 steps. */
    private static final int MOST_STEPS = 1000000;

    private static final int ANY_ENTRY = 7;

    /** One below the least entry, so that the search counts up from it. */
    private static final int UNTRIED = -2;

    private static final int SIDES = 4;
    private static final int ABOVE = 0;
    private static final int RIGHT = 1;
    private static final int BELOW = 2;
    private static final int LEFT = 3;

    private final int size;
    private final int places;

    /** The entries of all good squares, one square after the other, each row by row. */
    private final int[] entries = new int[MOST_ENTRIES];
    private int goodCount;

    /** Where in entries the square number k starts. */
    private final int[] starts = new int[MOST_SQUARES];
    private int fittingCount;

    private final int[] allowed = new int[MOST_PLACES];
    private final int[] hand = new int[MOST_PLACES];
    private final int[] draft = new int[MOST_PLACES];

    public SignMatrices(int size) {
        this.size = size < 1 ? 1 : size > GREATEST_SIZE ? GREATEST_SIZE : size;
        this.places = this.size * this.size;
        for (int place = 0; place < this.places; place++) {
            allowed[place] = ANY_ENTRY;
        }
        findGoodSquares();
        listFittingSquares();
    }

    public int allow(int r, int c, int set) {
        if (!isPlace(r, c)) {
            return -1;
        }
        if (set < 1 || set > ANY_ENTRY) {
            return -2;
        }
        int place = r * size + c;
        int before = allowed[place];
        allowed[place] = set;
        listFittingSquares();
        return before;
    }

    public int put(int r, int c, int v) {
        if (!isPlace(r, c)) {
            return -1;
        }
        if (!isEntry(v)) {
            return -2;
        }
        hand[r * size + c] = v;
        return 1;
    }

    public int load(int k) {
        if (!isNumber(k)) {
            return -1;
        }
        for (int place = 0; place < places; place++) {
            hand[place] = entries[starts[k] + place];
        }
        return 1;
    }

    public int count() {
        return fittingCount;
    }

    public int entry(int k, int r, int c) {
        if (!isNumber(k)) {
            return -9;
        }
        if (!isPlace(r, c)) {
            return -8;
        }
        return entries[starts[k] + r * size + c];
    }

    public int isGood() {
        for (int place = 0; place < places; place++) {
            if (!alternatesUpTo(hand, place)) {
                return 0;
            }
        }
        return 1;
    }

    public int rank() {
        for (int k = 0; k < fittingCount; k++) {
            if (isAtHand(starts[k])) {
                return k;
            }
        }
        return -2;
    }

    public int negatives(int j) {
        int found = 0;
        for (int k = 0; k < fittingCount; k++) {
            if (negativesOf(starts[k]) == j) {
                found++;
            }
        }
        return found;
    }

    public int weight(int x) {
        int sum = 0;
        for (int k = 0; k < fittingCount; k++) {
            int exponent = negativesOf(starts[k]);
            sum += power(x, exponent);
        }
        return sum;
    }

    public int having(int r, int c, int v) {
        if (!isPlace(r, c)) {
            return -1;
        }
        if (!isEntry(v)) {
            return -2;
        }
        int found = 0;
        for (int k = 0; k < fittingCount; k++) {
            if (entries[starts[k] + r * size + c] == v) {
                found++;
            }
        }
        return found;
    }

    public int corner(int k, int r, int c) {
        if (!isNumber(k)) {
            return -1;
        }
        if (!isPlace(r, c)) {
            return -2;
        }
        return cornerSum(starts[k], r, c);
    }

    public int inversions(int k) {
        if (!isNumber(k)) {
            return -1;
        }
        int sum = 0;
        for (int r = 0; r < size; r++) {
            for (int c = 0; c < size; c++) {
                int below = sumBelowAndLeft(starts[k], r, c);
                sum += entries[starts[k] + r * size + c] * below;
            }
        }
        return sum;
    }

    public int mix(int k, int l, int which) {
        if (!isNumber(k) || !isNumber(l)) {
            return -1;
        }
        if (which != 0 && which != 1) {
            return -2;
        }
        for (int m = 0; m < fittingCount; m++) {
            if (isMix(starts[m], starts[k], starts[l], which)) {
                return m;
            }
        }
        return -3;
    }

    public int pathEnd(int k, int e) {
        if (!isNumber(k)) {
            return -1;
        }
        if (e < 0 || e >= SIDES * size) {
            return -2;
        }
        int port = outerPort(e);
        if (!isOn(starts[k], port)) {
            return -3;
        }
        return endOfPath(starts[k], port);
    }

    public int rings(int k) {
        if (!isNumber(k)) {
            return -1;
        }
        int found = 0;
        for (int place = 0; place < places; place++) {
            if (isFirstOfRing(starts[k], place)) {
                found++;
            }
        }
        return found;
    }

    public int pattern(int k) {
        if (!isNumber(k)) {
            return -1;
        }
        return patternOf(starts[k]);
    }

    public int withPattern(int pattern) {
        int found = 0;
        for (int k = 0; k < fittingCount; k++) {
            if (patternOf(starts[k]) == pattern) {
                found++;
            }
        }
        return found;
    }

    private boolean isPlace(int r, int c) {
        return r >= 0 && r < size && c >= 0 && c < size;
    }

    private boolean isEntry(int v) {
        return v >= -1 && v <= 1;
    }

    private boolean isNumber(int k) {
        return k >= 0 && k < fittingCount;
    }

    /**
     * Fills the draft place by place, the least entry first, so that the good squares come in
     * their order.
     */
    private void findGoodSquares() {
        int place = 0;
        draft[0] = UNTRIED;
        for (int step = 0; step < MOST_STEPS && place >= 0; step++) {
            if (place == places) {
                keepDraft();
                place--;
            } else if (draft[place] == 1) {
                place--;
            } else {
                draft[place]++;
                if (alternatesUpTo(draft, place)) {
                    place++;
                    if (place < places) {
                        draft[place] = UNTRIED;
                    }
                }
            }
        }
    }

    private void keepDraft() {
        if (goodCount < MOST_SQUARES) {
            int start = goodCount * places;
            for (int place = 0; place < places; place++) {
                entries[start + place] = draft[place];
            }
            goodCount++;
        }
    }

    private void listFittingSquares() {
        fittingCount = 0;
        for (int good = 0; good < goodCount; good++) {
            int start = good * places;
            if (isAllowed(start)) {
                starts[fittingCount] = start;
                fittingCount++;
            }
        }
    }

    private boolean isAllowed(int start) {
        for (int place = 0; place < places; place++) {
            int digit = entries[start + place] + 1;
            if ((allowed[place] >> digit & 1) == 0) {
                return false;
            }
        }
        return true;
    }

    /**
     * Signs alternate, 1 being the first and the last, just if every sum from the start of the
     * line is 0 or 1 and the whole sum is 1; this looks at the two sums that end at the place.
     */
    private boolean alternatesUpTo(int[] square, int place) {
        int r = place / size;
        int c = place % size;
        int rowSum = sumOfLine(square, r * size, 1, c + 1);
        int columnSum = sumOfLine(square, c, size, r + 1);
        boolean rowHolds = rowSum == 1 || rowSum == 0 && c < size - 1;
        boolean columnHolds = columnSum == 1 || columnSum == 0 && r < size - 1;
        return rowHolds && columnHolds;
    }

    private int sumOfLine(int[] square, int first, int step, int length) {
        int sum = 0;
        for (int i = 0; i < length; i++) {
            sum += square[first + i * step];
        }
        return sum;
    }

    private boolean isAtHand(int start) {
        for (int place = 0; place < places; place++) {
            if (entries[start + place] != hand[place]) {
                return false;
            }
        }
        return true;
    }

    private int negativesOf(int start) {
        int found = 0;
        for (int place = 0; place < places; place++) {
            if (entries[start + place] == -1) {
                found++;
            }
        }
        return found;
    }

    private int power(int x, int exponent) {
        int product = 1;
        for (int i = 0; i < exponent; i++) {
            product *= x;
        }
        return product;
    }

    private int cornerSum(int start, int r, int c) {
        int sum = 0;
        for (int i = 0; i <= r; i++) {
            sum += sumOfLine(entries, start + i * size, 1, c + 1);
        }
        return sum;
    }

    private int sumBelowAndLeft(int start, int r, int c) {
        int sum = 0;
        for (int s = r + 1; s < size; s++) {
            sum += sumOfLine(entries, start + s * size, 1, c);
        }
        return sum;
    }

    /** A square is known by its corner sums, so these are compared and no square is made. */
    private boolean isMix(int start, int one, int other, int which) {
        for (int r = 0; r < size; r++) {
            for (int c = 0; c < size; c++) {
                int a = cornerSum(one, r, c);
                int b = cornerSum(other, r, c);
                int greater = a > b ? a : b;
                int due = which == 0 ? greater : a + b - greater;
                if (cornerSum(start, r, c) != due) {
                    return false;
                }
            }
        }
        return true;
    }

    // A port is a place with one of its four sides: place * SIDES + side. An edge between two
    // places has two ports, an outer edge one.

    private int outerPort(int e) {
        int side = e / size;
        int i = e % size;
        int last = size - 1;
        int r = side == ABOVE ? 0 : side == RIGHT ? i : side == BELOW ? last : last - i;
        int c = side == ABOVE ? i : side == RIGHT ? last : side == BELOW ? last - i : 0;
        return (r * size + c) * SIDES + side;
    }

    /** The number of the outer edge at a port, -1 at an edge between two places. */
    private int outerNumber(int port) {
        int side = port % SIDES;
        int r = port / SIDES / size;
        int c = port / SIDES % size;
        int last = size - 1;
        if (side == ABOVE && r == 0) {
            return c;
        }
        if (side == RIGHT && c == last) {
            return size + r;
        }
        if (side == BELOW && r == last) {
            return 2 * size + last - c;
        }
        if (side == LEFT && c == 0) {
            return 3 * size + last - r;
        }
        return -1;
    }

    /** The other port of an edge between two places. */
    private int portAcross(int port) {
        int side = port % SIDES;
        int place = port / SIDES;
        if (side == ABOVE) {
            return (place - size) * SIDES + BELOW;
        }
        if (side == RIGHT) {
            return (place + 1) * SIDES + LEFT;
        }
        if (side == BELOW) {
            return (place + size) * SIDES + ABOVE;
        }
        return (place - 1) * SIDES + RIGHT;
    }

    private boolean isOn(int start, int port) {
        int side = port % SIDES;
        int r = port / SIDES / size;
        int c = port / SIDES % size;
        boolean leadsIn;
        if (side == LEFT || side == RIGHT) {
            int h = sumOfLine(entries, start + r * size, 1, side == RIGHT ? c + 1 : c);
            leadsIn = side == RIGHT ? h == 1 : h == 0;
        } else {
            int v = sumOfLine(entries, start + c, size, side == BELOW ? r + 1 : r);
            leadsIn = side == BELOW ? v == 0 : v == 1;
        }
        boolean even = (r + c) % 2 == 0;
        return leadsIn == even;
    }

    /** The port of the same place by which the path that comes in at a port goes on. */
    private int wayOn(int start, int port) {
        int first = port - port % SIDES;
        for (int side = 0; side < SIDES; side++) {
            int other = first + side;
            if (other != port && isOn(start, other)) {
                return other;
            }
        }
        return port;
    }

    /** A path is at no place twice, so it has left the square after as many steps as places. */
    private int endOfPath(int start, int outer) {
        int port = outer;
        for (int step = 0; step < places; step++) {
            int out = wayOn(start, port);
            int number = outerNumber(out);
            if (number >= 0) {
                return number;
            }
            port = portAcross(out);
        }
        return -1;
    }

    /** Each ring is found just once, at that of its places which comes first. */
    private boolean isFirstOfRing(int start, int place) {
        int port = place * SIDES;
        if (!isOn(start, port)) {
            port = wayOn(start, port);
        }
        for (int step = 0; step < places; step++) {
            int out = wayOn(start, port);
            if (outerNumber(out) >= 0) {
                return false;
            }
            port = portAcross(out);
            if (port / SIDES < place) {
                return false;
            }
            if (port / SIDES == place) {
                return true;
            }
        }
        return false;
    }

    private int patternOf(int start) {
        int digits = 0;
        for (int e = 0; e < SIDES * size; e++) {
            int port = outerPort(e);
            if (isOn(start, port)) {
                int later = endOfPath(start, port) > e ? 1 : 0;
                digits = digits * 2 + later;
            }
        }
        return digits;
    }
}

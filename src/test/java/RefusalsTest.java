import java.util.Arrays;

/**
 * The sentences of the document that name a refused call, at every size. Each argument takes the
 * least int, one below its least value, its least, its greatest, one above that and the greatest
 * int, in all combinations: of two wrong arguments the one named first decides. After each
 * refused call the object is looked at: nothing has changed.
 */
public final class RefusalsTest {
    private static final Due due = new Due();
    private static final int[] COUNTS = {0, 1, 2, 7, 42, 429};

    /** An argument with its least and greatest value and what a wrong one is answered by. */
    private record Argument(int least, int greatest, int refusal) {
        int[] values() {
            return new int[] {
                Integer.MIN_VALUE, least - 1, least, greatest, greatest + 1, Integer.MAX_VALUE};
        }

        boolean has(int value) {
            return value >= least && value <= greatest;
        }
    }

    public static void main(String[] args) {
        for (int n = 1; n <= 5; n++) {
            // With 1 alone in the corner there are as many squares as at one size less, so that
            // k may be too great for those that fit and not for all good ones.
            refusals(n, 6, COUNTS[n]);
            refusals(n, 4, n == 1 ? 1 : COUNTS[n - 1]);
        }
        due.end();
    }

    private static void refusals(int n, int cornerSet, int count) {
        allow(n, cornerSet, count);
        put(n, cornerSet, count);
        load(n, cornerSet, count);
        entry(n, cornerSet, count);
        having(n, cornerSet, count);
        corner(n, cornerSet, count);
        inversions(n, cornerSet, count);
        mix(n, cornerSet, count);
        pathEnd(n, cornerSet, count);
        edgeNotOn(n, cornerSet, count);
        rings(n, cornerSet, count);
        pattern(n, cornerSet, count);
    }

    /** Promise 2: "r or c is not 0 to n - 1: -1; set is not 1 to 7: -2." */
    private static void allow(int n, int cornerSet, int count) {
        Argument line = new Argument(0, n - 1, -1);
        Argument set = new Argument(1, 7, -2);
        each(Call.allow, n, cornerSet, count, line, line, set);
    }

    /** Promise 3: "r or c is not 0 to n - 1: -1; v is not -1 to 1: -2." */
    private static void put(int n, int cornerSet, int count) {
        Argument line = new Argument(0, n - 1, -1);
        Argument v = new Argument(-1, 1, -2);
        each(Call.put, n, cornerSet, count, line, line, v);
    }

    /** Promise 4: "There is none: -1." */
    private static void load(int n, int cornerSet, int count) {
        each(Call.load, n, cornerSet, count, new Argument(0, count - 1, -1));
    }

    /** Promise 6: "no such square: -9; r or c is not 0 to n - 1: -8." */
    private static void entry(int n, int cornerSet, int count) {
        Argument k = new Argument(0, count - 1, -9);
        Argument line = new Argument(0, n - 1, -8);
        each(Call.entry, n, cornerSet, count, k, line, line);
    }

    /** Promise 11: "r or c is not 0 to n - 1: -1; v is not -1 to 1: -2." */
    private static void having(int n, int cornerSet, int count) {
        Argument line = new Argument(0, n - 1, -1);
        Argument v = new Argument(-1, 1, -2);
        each(Call.having, n, cornerSet, count, line, line, v);
    }

    /**
     * Promise 12: "r or c is not 0 to n - 1: -2"; ahead of the calls: "Where a k is asked for:
     * there is no square with this number: -1, tested first."
     */
    private static void corner(int n, int cornerSet, int count) {
        Argument k = new Argument(0, count - 1, -1);
        Argument line = new Argument(0, n - 1, -2);
        each(Call.corner, n, cornerSet, count, k, line, line);
    }

    /** Of promise 13: "there is no square with this number: -1". */
    private static void inversions(int n, int cornerSet, int count) {
        each(Call.inversions, n, cornerSet, count, new Argument(0, count - 1, -1));
    }

    /** Promise 14: "which is not 0 or 1: -2", after -1 for k and for l. */
    private static void mix(int n, int cornerSet, int count) {
        Argument number = new Argument(0, count - 1, -1);
        Argument which = new Argument(0, 1, -2);
        each(Call.mix, n, cornerSet, count, number, number, which);
    }

    /** Promise 15: "e is not 0 to 4 n - 1: -2", after -1 for k. */
    private static void pathEnd(int n, int cornerSet, int count) {
        Argument k = new Argument(0, count - 1, -1);
        Argument e = new Argument(0, 4 * n - 1, -2);
        each(Call.pathEnd, n, cornerSet, count, k, e);
    }

    /**
     * Promise 15: "e is not on: -3." In every good square the outer edges above lead up, those
     * below down and those on both sides inwards, so just those with an odd number are on.
     */
    private static void edgeNotOn(int n, int cornerSet, int count) {
        for (int k : new int[] {-1, 0, count - 1, count}) {
            SignMatrices x = prepared(n, cornerSet);
            for (int e = -2; e <= 4 * n + 1; e++) {
                int got = x.pathEnd(k, e);
                String call = "size " + n + ": pathEnd(" + k + ", " + e + ")";
                if (k < 0 || k >= count) {
                    due.is(call, got, -1);
                } else if (e < 0 || e >= 4 * n) {
                    due.is(call, got, -2);
                } else if (e % 2 == 0) {
                    due.is(call, got, -3);
                } else {
                    due.holds(call + " answers an outer edge", got >= 0 && got < 4 * n && got != e);
                }
            }
            unchanged("after pathEnd", x, n, cornerSet, count);
        }
    }

    /** Of promise 16: "there is no square with this number: -1". */
    private static void rings(int n, int cornerSet, int count) {
        each(Call.rings, n, cornerSet, count, new Argument(0, count - 1, -1));
    }

    /** Of promise 17: "there is no square with this number: -1". */
    private static void pattern(int n, int cornerSet, int count) {
        each(Call.pattern, n, cornerSet, count, new Argument(0, count - 1, -1));
    }

    private static void each(Call call, int n, int cornerSet, int count, Argument... takes) {
        int[] values = new int[takes.length];
        int combinations = (int) Math.pow(6, takes.length);
        for (int code = 0; code < combinations; code++) {
            int rest = code;
            for (int i = 0; i < takes.length; i++) {
                values[i] = takes[i].values()[rest % 6];
                rest /= 6;
            }
            one(call, n, cornerSet, count, takes, values);
        }
    }

    /** "The tests of a call are made in the order in which they are named." */
    private static void one(Call call, int n, int cornerSet, int count, Argument[] takes, int[] values) {
        SignMatrices x = prepared(n, cornerSet);
        String told = "size " + n + ", corners " + cornerSet + ": " + call + Arrays.toString(values);
        int got = call.ask(x, values);
        for (int i = 0; i < takes.length; i++) {
            if (!takes[i].has(values[i])) {
                due.is(told, got, takes[i].refusal());
                unchanged("after " + told, x, n, cornerSet, count);
                return;
            }
        }
        for (Argument taken : takes) {
            due.holds(told + " is not refused", got != taken.refusal());
        }
    }

    /**
     * No good square has a -1 in a corner. So with the set 6 in two of them all good squares fit,
     * and the sets are not all the same; the square at hand is the last one, the diagonal.
     */
    private static SignMatrices prepared(int n, int cornerSet) {
        SignMatrices x = new SignMatrices(n);
        x.allow(0, 0, cornerSet);
        x.allow(n - 1, n - 1, n == 1 ? cornerSet : 6);
        for (int i = 0; i < n; i++) {
            x.put(i, i, 1);
        }
        return x;
    }

    /** "A refused call changes nothing." */
    private static void unchanged(String when, SignMatrices x, int n, int cornerSet, int count) {
        due.is(when + ", count()", x.count(), count);
        due.is(when + ", isGood()", x.isGood(), 1);
        due.is(when + ", rank()", x.rank(), count - 1);
        for (int place = 0; place < n * n; place++) {
            int set = place == 0 ? cornerSet : place == n * n - 1 ? 6 : 7;
            String at = ", what is allowed at place " + place;
            due.is(when + at, x.allow(place / n, place % n, set), set);
        }
        due.is(when + ", count() of the sets read", x.count(), count);
    }
}

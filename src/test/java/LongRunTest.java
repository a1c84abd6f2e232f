/** "An object is used for at most 512 calls after it has been made": runs as long as that. */
public final class LongRunTest {
    private static final Due due = new Due();
    private static final int CALLS = 512;

    private record Step(Call call, int answer, int... arguments) {}

    private static Step step(int answer, Call call, int... arguments) {
        return new Step(call, answer, arguments);
    }

    /** Every call, and what it answers at size 3; all entries are allowed before and after. */
    private static final Step[] THREE = {
        step(7, Call.allow, 0, 0, 4), step(2, Call.count), step(1, Call.load, 0),
        step(0, Call.rank), step(1, Call.isGood), step(1, Call.entry, 1, 2, 2),
        step(2, Call.negatives, 0), step(2, Call.weight, 9), step(1, Call.having, 1, 1, 1),
        step(2, Call.corner, 0, 1, 2), step(1, Call.inversions, 0), step(1, Call.mix, 0, 1, 0),
        step(11, Call.pathEnd, 1, 1), step(0, Call.rings, 0), step(56, Call.pattern, 1),
        step(1, Call.withPattern, 56), step(-1, Call.load, 2), step(4, Call.allow, 0, 0, 7),
        step(5, Call.rank), step(1, Call.put, 1, 1, 1), step(0, Call.isGood),
        step(-2, Call.rank), step(-1, Call.put, 3, 0, 0), step(-2, Call.allow, 0, 0, 0),
    };

    /** The same at size 5. */
    private static final Step[] FIVE = {
        step(7, Call.allow, 0, 0, 4), step(42, Call.count), step(1, Call.load, 41),
        step(41, Call.rank), step(1, Call.isGood), step(1, Call.entry, 0, 0, 0),
        step(2, Call.negatives, 2), step(64, Call.weight, 2), step(7, Call.having, 1, 1, 1),
        step(4, Call.corner, 41, 3, 4), step(6, Call.inversions, 0), step(0, Call.mix, 0, 41, 1),
        step(11, Call.pathEnd, 41, 9), step(0, Call.rings, 41), step(992, Call.pattern, 41),
        step(1, Call.withPattern, 992), step(-1, Call.load, 42), step(4, Call.allow, 0, 0, 7),
        step(428, Call.rank), step(1, Call.put, 0, 0, -1), step(0, Call.isGood),
        step(-2, Call.rank), step(-9, Call.entry, 429, 0, 0), step(1, Call.mix, 1, 1, 0),
    };

    public static void main(String[] args) {
        for (int last = 0; last < THREE.length; last++) {
            rounds(3, 7, THREE, last);
        }
        for (int last = 0; last < FIVE.length; last++) {
            rounds(5, 429, FIVE, last);
        }
        oneKindAlone();
        due.end();
    }

    /** Goes round and round through the steps so that the 512th call is the one told. */
    private static void rounds(int size, int all, Step[] steps, int last) {
        SignMatrices x = new SignMatrices(size);
        int ahead = (CALLS - last - 1) % steps.length;
        for (int i = 0; i < CALLS; i++) {
            String told = "size " + size + ", call " + (i + 1) + " of 512: ";
            if (i < ahead) {
                due.is(told + "count()", x.count(), all);
            } else {
                Step next = steps[(i - ahead) % steps.length];
                due.is(told + next.call(), next.call().ask(x, next.arguments()), next.answer());
            }
        }
    }

    /** What calls answer on a new object of size 5, however often they are asked. */
    private static final Step[] ALONE = {
        step(1, Call.put, 4, 4, 1), step(1, Call.load, 428), step(429, Call.count),
        step(1, Call.entry, 0, 0, 4), step(0, Call.isGood), step(-2, Call.rank),
        step(1, Call.negatives, 4), step(1024, Call.weight, 2), step(42, Call.having, 0, 0, 1),
        step(5, Call.corner, 428, 4, 4), step(10, Call.inversions, 0), step(0, Call.mix, 0, 428, 1),
        step(11, Call.pathEnd, 428, 9), step(0, Call.rings, 0), step(992, Call.pattern, 428),
        step(1, Call.withPattern, 992), step(-1, Call.put, 5, 0, 0), step(-2, Call.allow, 0, 0, 8),
        step(-1, Call.load, 429), step(7, Call.allow, 0, 0, 7),
    };

    /** 512 times the same call on one object, and 512 sets one after the other. */
    private static void oneKindAlone() {
        for (Step alone : ALONE) {
            SignMatrices x = new SignMatrices(5);
            for (int i = 0; i < CALLS; i++) {
                String told = "the same for the " + (i + 1) + "th time: " + alone.call();
                due.is(told, alone.call().ask(x, alone.arguments()), alone.answer());
            }
        }
        SignMatrices sets = new SignMatrices(5);
        for (int i = 0; i < CALLS; i++) {
            int before = i < 25 ? 7 : (i - 25) % 7 + 1;
            String told = "set " + (i + 1) + " of 512: allow";
            due.is(told, sets.allow(i / 5 % 5, i % 5, i % 7 + 1), before);
        }
    }
}

import java.util.Random;

/**
 * LANGUAGE.md, rule 7: "No call may ever throw or fail to end, for any arguments in any state", and
 * rule 11: "the same calls always give the same answers". Two objects are given the same calls, with
 * others in between; what is thrown ends the test, and .ci/run fails. Here an object is used for
 * far more than 512 calls: what it then answers is free, but not that it answers.
 */
public final class AnyCallTest {
    private static final Due due = new Due();
    private static final int CALLS = 3000;
    private static final int LONGEST_SECONDS = 120;
    private static final int[] EDGES = {
        Integer.MIN_VALUE, Integer.MIN_VALUE + 1, -10726, -430, -429, -26, -9, -4, -3, -2, -1, 0, 1, 2,
        3, 4, 5, 6, 7, 8, 19, 20, 21, 24, 25, 26, 41, 42, 428, 429, 430, 992, 1023, 1024, 10724, 10725,
        65536, 1 << 30, Integer.MAX_VALUE - 1, Integer.MAX_VALUE};

    public static void main(String[] args) {
        stopIfItDoesNotEnd();
        for (int size : EDGES) {
            everyEdge(size);
        }
        Random random = new Random(7);
        for (int run = 0; run < 60; run++) {
            twins(random, run % 7);
        }
        due.end();
    }

    private static void stopIfItDoesNotEnd() {
        Thread watch = new Thread(() -> {
            try {
                Thread.sleep(LONGEST_SECONDS * 1000L);
            } catch (InterruptedException e) {
                return;
            }
            System.out.println("a call does not end");
            Runtime.getRuntime().halt(1);
        });
        watch.setDaemon(true);
        watch.start();
    }

    /** Each argument takes each edge, the others being 0: two new objects, and one where none fits. */
    private static void everyEdge(int size) {
        SignMatrices one = new SignMatrices(size);
        SignMatrices other = new SignMatrices(size);
        SignMatrices none = new SignMatrices(size);
        none.allow(0, 0, 1);
        for (Call call : Call.values()) {
            for (int i = 0; i < 3; i++) {
                for (int edge : EDGES) {
                    int[] arguments = {0, 0, 0};
                    arguments[i] = edge;
                    int answer = call.ask(one, arguments);
                    call.ask(none, arguments);
                    due.is("new " + size + ": " + call + " of the twin", call.ask(other, arguments), answer);
                }
            }
            one.allow(0, 0, 7);
            other.allow(0, 0, 7);
            none.allow(0, 0, 1);
        }
    }

    private static void twins(Random random, int size) {
        SignMatrices one = new SignMatrices(size);
        SignMatrices between = new SignMatrices(random.nextInt());
        SignMatrices other = new SignMatrices(size);
        for (int i = 0; i < CALLS; i++) {
            Call call = Call.values()[random.nextInt(Call.values().length)];
            int[] arguments = {argument(random), argument(random), argument(random)};
            // Most sets are made whole again, so that there are squares to ask for.
            arguments[2] = call == Call.allow && i % 8 != 0 ? 7 : arguments[2];
            int first = call.ask(one, arguments);
            Call.values()[random.nextInt(3)].ask(between, argument(random), argument(random), argument(random));
            due.is("call " + i + ": " + call + " of the twin", call.ask(other, arguments), first);
        }
    }

    private static int argument(Random random) {
        int kind = random.nextInt(10);
        return kind == 0 ? random.nextInt() : kind == 1 ? EDGES[random.nextInt(EDGES.length)] : random.nextInt(8) - 1;
    }
}

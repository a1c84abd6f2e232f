import java.util.Random;

/** Compares every answer with the model's: first all inputs there are, then mixed runs. */
public final class ModelTest {
    private static final Due due = new Due();
    private static final int CALLS = 512;
    private static final int[] FAR = {Integer.MIN_VALUE, -1000, 1000, Integer.MAX_VALUE};

    private static SignMatrices fresh;
    private static Model model;
    private static int used;

    public static void main(String[] args) {
        for (int n = 1; n <= 5; n++) {
            model = new Model(n);
            used = CALLS;
            everySquare(n);
            everyMix(n);
            everySum(n);
        }
        Random random = new Random(19);
        for (int run = 0; run < 240; run++) {
            mixedRun(random, run % 8 - 1);
        }
        for (int run = 0; run < 30; run++) {
            mixesWhereFewFit(random, 3 + run % 3);
        }
        due.end();
    }

    /** An object is good for 512 calls, so the look through all inputs changes it in time. */
    private static SignMatrices object() {
        if (used == CALLS) {
            fresh = new SignMatrices(model.n);
            used = 0;
        }
        used++;
        return fresh;
    }

    private static void everySquare(int n) {
        for (int k = -2; k < model.count() + 2; k++) {
            String of = "size " + n + ": ";
            for (int r = -1; r <= n; r++) {
                for (int c = -1; c <= n; c++) {
                    String at = "(" + k + ", " + r + ", " + c + ")";
                    due.is(of + "entry" + at, object().entry(k, r, c), model.entry(k, r, c));
                    due.is(of + "corner" + at, object().corner(k, r, c), model.corner(k, r, c));
                }
            }
            for (int e = -1; e <= 4 * n; e++) {
                String at = "pathEnd(" + k + ", " + e + ")";
                due.is(of + at, object().pathEnd(k, e), model.pathEnd(k, e));
            }
            due.is(of + "inversions(" + k + ")", object().inversions(k), model.inversions(k));
            due.is(of + "rings(" + k + ")", object().rings(k), model.rings(k));
            due.is(of + "pattern(" + k + ")", object().pattern(k), model.pattern(k));
            SignMatrices x = new SignMatrices(n);
            due.is(of + "load(" + k + ")", x.load(k), model.load(k));
            if (k >= 0 && k < model.count()) {
                due.is(of + "load(" + k + "), rank()", x.rank(), k);
                due.is(of + "load(" + k + "), isGood()", x.isGood(), 1);
            }
        }
    }

    private static void everyMix(int n) {
        int step = n == 5 ? 13 : 1;
        for (int k = -1; k <= model.count(); k += step) {
            for (int l = -1; l <= model.count(); l += step) {
                for (int which = -1; which <= 2; which++) {
                    String call = "size " + n + ": mix(" + k + ", " + l + ", " + which + ")";
                    due.is(call, object().mix(k, l, which), model.mix(k, l, which));
                }
            }
        }
    }

    private static void everySum(int n) {
        String of = "size " + n + ": ";
        for (int j = -3; j <= 26; j++) {
            due.is(of + "negatives(" + j + ")", object().negatives(j), model.negatives(j));
            due.is(of + "weight(" + j + ")", object().weight(j), model.weight(j));
        }
        for (int far : FAR) {
            due.is(of + "negatives(" + far + ")", object().negatives(far), model.negatives(far));
            due.is(of + "weight(" + far + ")", object().weight(far), model.weight(far));
            due.is(of + "withPattern(" + far + ")", object().withPattern(far), model.withPattern(far));
        }
        for (int r = -1; r <= n; r++) {
            for (int c = -1; c <= n; c++) {
                for (int v = -2; v <= 2; v++) {
                    String call = "having(" + r + ", " + c + ", " + v + ")";
                    due.is(of + call, object().having(r, c, v), model.having(r, c, v));
                }
            }
        }
        int all = 0;
        for (int p = -1; p <= 1 << 2 * n; p++) {
            int found = object().withPattern(p);
            all += found;
            if (p % 7 == 0 || found != 0) {
                due.is(of + "withPattern(" + p + ")", found, model.withPattern(p));
            }
        }
        due.is(of + "all patterns together", all, model.count());
    }

    private static void mixedRun(Random random, int size) {
        SignMatrices x = new SignMatrices(size);
        model = new Model(size);
        StringBuilder run = new StringBuilder("new " + size);
        for (int i = 0; i < CALLS; i++) {
            int method = random.nextInt(20);
            int a = argument(random, method);
            int b = near(random);
            int c = near(random);
            if (method == 12) {
                b = argument(random, method);
            }
            if (method == 13) {
                b = random.nextInt(4 * model.n + 2) - 1;
            }
            if (method == 0 || method == 18) {
                c = random.nextInt(3) == 0 ? 7 : random.nextInt(10) - 1;
            }
            String call = " " + method + "(" + a + "," + b + "," + c + ")";
            int got = ask(x, method, a, b, c);
            int want = expect(method, a, b, c);
            run.append(call);
            due.is(got == want ? "" : run.toString(), got, want);
        }
    }

    /** Leaves out some entries at some places, so that many a mix does not fit. */
    private static void mixesWhereFewFit(Random random, int size) {
        SignMatrices x = new SignMatrices(size);
        model = new Model(size);
        for (int i = 0; i < 4; i++) {
            int r = random.nextInt(size);
            int c = random.nextInt(size);
            int set = new int[] {2, 3, 5, 6}[random.nextInt(4)];
            String call = "size " + size + ": allow(" + r + ", " + c + ", " + set + ")";
            due.is(call, x.allow(r, c, set), model.allow(r, c, set));
        }
        for (int i = 0; i < 500 && model.count() > 0; i++) {
            int k = random.nextInt(model.count());
            int l = random.nextInt(model.count());
            int which = i % 2;
            String call = "size " + size + ", few fit: mix(" + k + ", " + l + ", " + which + ")";
            due.is(call, x.mix(k, l, which), model.mix(k, l, which));
        }
    }

    private static int near(Random random) {
        if (random.nextInt(40) == 0) {
            return FAR[random.nextInt(FAR.length)];
        }
        return random.nextInt(12) == 0 ? random.nextInt(10) - 3 : random.nextInt(model.n);
    }

    private static int argument(Random random, int method) {
        boolean number = method == 2 || method == 4 || method >= 10 && method <= 15;
        if (method == 16) {
            return random.nextBoolean() ? model.pattern(0) : random.nextInt(1 << 2 * model.n);
        }
        if (!number || random.nextInt(20) == 0) {
            return near(random);
        }
        return random.nextInt(model.count() + 2) - 1;
    }

    private static int ask(SignMatrices x, int method, int a, int b, int c) {
        switch (method) {
            case 0: return x.allow(a, b, c);
            case 1: return x.put(a, b, c - 1);
            case 2: return x.load(a);
            case 3: return x.count();
            case 4: return x.entry(a, b, c);
            case 5: return x.isGood();
            case 6: return x.rank();
            case 7: return x.negatives(a);
            case 8: return x.weight(a);
            case 9: return x.having(a, b, c - 1);
            case 10: return x.corner(a, b, c);
            case 11: return x.inversions(a);
            case 12: return x.mix(a, b, c);
            case 13: return x.pathEnd(a, b);
            case 14: return x.rings(a);
            case 15: return x.pattern(a);
            case 16: return x.withPattern(a);
            case 17: return x.rank();
            case 18: return x.allow(a, b, 7);
            default: return x.isGood();
        }
    }

    private static int expect(int method, int a, int b, int c) {
        switch (method) {
            case 0: return model.allow(a, b, c);
            case 1: return model.put(a, b, c - 1);
            case 2: return model.load(a);
            case 3: return model.count();
            case 4: return model.entry(a, b, c);
            case 5: return model.isGood();
            case 6: return model.rank();
            case 7: return model.negatives(a);
            case 8: return model.weight(a);
            case 9: return model.having(a, b, c - 1);
            case 10: return model.corner(a, b, c);
            case 11: return model.inversions(a);
            case 12: return model.mix(a, b, c);
            case 13: return model.pathEnd(a, b);
            case 14: return model.rings(a);
            case 15: return model.pattern(a);
            case 16: return model.withPattern(a);
            case 17: return model.rank();
            case 18: return model.allow(a, b, 7);
            default: return model.isGood();
        }
    }
}

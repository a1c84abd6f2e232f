/** The calls of the class by their names, for tests that go through all of them. */
enum Call {
    allow, put, load, count, entry, isGood, rank, negatives, weight, having, corner, inversions,
    mix, pathEnd, rings, pattern, withPattern;

    int ask(SignMatrices x, int... a) {
        switch (this) {
            case allow: return x.allow(a[0], a[1], a[2]);
            case put: return x.put(a[0], a[1], a[2]);
            case load: return x.load(a[0]);
            case count: return x.count();
            case entry: return x.entry(a[0], a[1], a[2]);
            case isGood: return x.isGood();
            case rank: return x.rank();
            case negatives: return x.negatives(a[0]);
            case weight: return x.weight(a[0]);
            case having: return x.having(a[0], a[1], a[2]);
            case corner: return x.corner(a[0], a[1], a[2]);
            case inversions: return x.inversions(a[0]);
            case mix: return x.mix(a[0], a[1], a[2]);
            case pathEnd: return x.pathEnd(a[0], a[1]);
            case rings: return x.rings(a[0]);
            case pattern: return x.pattern(a[0]);
            default: return x.withPattern(a[0]);
        }
    }
}

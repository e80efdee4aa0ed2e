import java.util.function.Supplier;

/** The graphs that the tests ask about. */
final class Graphs {
    private Graphs() {
    }

    static ModuleTree graph(int points, int... pairs) {
        ModuleTree x = new ModuleTree(points);
        for (int i = 0; i < pairs.length; i += 2) {
            x.join(pairs[i], pairs[i + 1], true);
        }
        return x;
    }

    /** The line 0-1-2-3: the smallest prime graph. */
    static ModuleTree line4() {
        return line(4);
    }

    static ModuleTree line(int points) {
        ModuleTree x = new ModuleTree(points);
        for (int u = 1; u < points; u++) {
            x.join(u - 1, u, true);
        }
        return x;
    }

    /** The line 0-1-2-3 with the joined pair 4-5 and the point 6 beside it. */
    static ModuleTree mixed7() {
        return graph(7, 0, 1, 1, 2, 2, 3, 4, 5);
    }

    /** Every odd point is joined to all points below it: 0, then 0-1, then 0..2 and so on. */
    static ModuleTree nested8() {
        ModuleTree x = new ModuleTree(8);
        for (int u = 1; u < 8; u += 2) {
            for (int v = 0; v < u; v++) {
                x.join(u, v, true);
            }
        }
        return x;
    }

    /** The line 0-1-2-3, its end 0 made the line 0-4-5-6 and its end 3 the joined pair 3-7. */
    static ModuleTree primes8() {
        return graph(8, 0, 4, 4, 5, 5, 6, 1, 0, 1, 4, 1, 5, 1, 6, 1, 2, 2, 3, 2, 7, 3, 7);
    }

    /** All points joined, by join alone. */
    static ModuleTree full(int points) {
        ModuleTree x = new ModuleTree(points);
        for (int u = 0; u < points; u++) {
            for (int v = 0; v < u; v++) {
                x.join(u, v, true);
            }
        }
        return x;
    }

    static ModuleTree turned(ModuleTree x) {
        x.complement();
        return x;
    }

    /**
     * Whether u and v are joined. No call tells it, so all other pairs of a new object are parted:
     * then the two are a tight strong module if they are joined, and none if they are not.
     */
    static boolean joined(Supplier<ModuleTree> maker, int points, int u, int v) {
        ModuleTree x = maker.get();
        int pair = 1 << u | 1 << v;
        for (int a = 0; a < points; a++) {
            for (int b = 0; b < a; b++) {
                if ((1 << a | 1 << b) != pair) {
                    x.join(a, b, false);
                }
            }
        }
        return x.kind(pair) == ModuleTree.TIGHT;
    }

    /** Which pairs are joined, as one number with a bit for each pair. */
    static long joinedPairs(Supplier<ModuleTree> maker, int points) {
        long pairs = 0;
        int bit = 0;
        for (int u = 0; u < points; u++) {
            for (int v = 0; v < u; v++) {
                pairs |= joined(maker, points, u, v) ? 1L << bit : 0L;
                bit++;
            }
        }
        return pairs;
    }

    /** What joinedPairs tells if all pairs are joined. */
    static long everyPair(int points) {
        return (1L << points * (points - 1) / 2) - 1;
    }
}

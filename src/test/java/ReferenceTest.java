import java.util.ArrayList;
import java.util.List;

/**
 * Holds the program against the reference: every graph of up to 5 points with every question, some
 * graphs of 6 to 8 points with every question, and long mixed runs of calls.
 */
public final class ReferenceTest {
    private static final int MOST_CALLS = 512;
    private static final Checks CHECKS = new Checks();
    // A fixed seed: each run of the test makes the same calls.
    private static long seed = 20261115L;

    public static void main(String[] args) {
        for (int n = 1; n <= 5; n++) {
            for (long edges = 0; edges < 1L << (n * (n - 1) / 2); edges++) {
                askAll(n, edges);
            }
        }
        for (int n = 6; n <= 8; n++) {
            for (int time = 0; time < 60; time++) {
                askAll(n, edgesOfKind(time));
            }
        }
        for (int time = 0; time < 300; time++) {
            mixedRun(time);
        }
        CHECKS.end();
    }

    private static int next(int bound) {
        seed = seed * 6364136223846793005L + 1442695040888963407L;
        return (int) ((seed >>> 33) % bound);
    }

    /** Few, half or most pairs joined: graphs with few edges or few gaps have more modules. */
    private static long edgesOfKind(int time) {
        long a = (long) next(1 << 14) << 14 | next(1 << 14);
        long b = (long) next(1 << 14) << 14 | next(1 << 14);
        return time % 3 == 0 ? a & b : time % 3 == 1 ? a | b : a;
    }

    private static List<int[]> joinedPairs(int n, long edges) {
        List<int[]> pairs = new ArrayList<>();
        int bit = 0;
        for (int v = 1; v < n; v++) {
            for (int u = 0; u < v; u++) {
                if ((edges >> bit++ & 1) == 1) {
                    pairs.add(new int[] {u, v});
                }
            }
        }
        return pairs;
    }

    private static ModuleTree build(int n, List<int[]> pairs) {
        ModuleTree x = new ModuleTree(n);
        pairs.forEach(pair -> x.join(pair[0], pair[1], true));
        return x;
    }

    /** Each kind of question has a new object, as one object is good for 512 calls. */
    private static void askAll(int n, long edges) {
        List<int[]> pairs = joinedPairs(n, edges);
        Reference r = new Reference(n);
        pairs.forEach(pair -> r.join(pair[0], pair[1], true));
        String name = n + " points, edges " + edges + ": ";
        ModuleTree forPairs = build(n, pairs);
        for (int u = -1; u <= n; u++) {
            for (int v = -1; v <= n; v++) {
                String args = "(" + u + ", " + v + ")";
                CHECKS.due(name + "around" + args, forPairs.around(u, v), r.around(u, v));
                CHECKS.due(name + "strongAround" + args, forPairs.strongAround(u, v), r.strongAround(u, v));
            }
        }
        CHECKS.due(name + "strong()", forPairs.strong(), r.strong());
        CHECKS.due(name + "modules()", forPairs.modules(), r.modules());
        for (int question = 0; question < 5; question++) {
            ModuleTree x = build(n, pairs);
            for (int set = -2; set <= (1 << n) + 1; set++) {
                askSet(name, x, r, question, set);
            }
        }
    }

    private static void askSet(String name, ModuleTree x, Reference r, int question, int set) {
        String args = "(" + set + ")";
        switch (question) {
            case 0 -> CHECKS.due(name + "isModule" + args, x.isModule(set), r.isModule(set));
            case 1 -> CHECKS.due(name + "isStrong" + args, x.isStrong(set), r.isStrong(set));
            case 2 -> CHECKS.due(name + "kind" + args, x.kind(set), r.kind(set));
            case 3 -> CHECKS.due(name + "children" + args, x.children(set), r.children(set));
            default -> CHECKS.due(name + "parent" + args, x.parent(set), r.parent(set));
        }
    }

    private static void mixedRun(int time) {
        int points = next(12) - 1;
        ModuleTree x = new ModuleTree(points);
        Reference r = new Reference(points);
        // Runs that mostly part, mostly join, or do both alike reach different trees.
        int joinsOfTen = 2 + time % 3 * 3;
        for (int call = 1; call <= MOST_CALLS; call++) {
            mixedCall("run " + time + ", call " + call + ": ", x, r, joinsOfTen);
        }
    }

    private static void mixedCall(String name, ModuleTree x, Reference r, int joinsOfTen) {
        int u = next(r.n + 2) - 1;
        int v = next(r.n + 2) - 1;
        String args = "(" + u + ", " + v + ")";
        int choice = next(16);
        if (choice < 6) {
            boolean to = next(10) < joinsOfTen;
            CHECKS.due(name + "join" + args + " " + to, x.join(u, v, to), r.join(u, v, to));
        } else if (choice == 6) {
            x.complement();
            r.complement();
        } else if (choice == 7) {
            CHECKS.due(name + "around" + args, x.around(u, v), r.around(u, v));
        } else if (choice == 8) {
            CHECKS.due(name + "strongAround" + args, x.strongAround(u, v), r.strongAround(u, v));
        } else if (choice == 9) {
            CHECKS.due(name + "strong()", x.strong(), r.strong());
        } else if (choice == 10) {
            CHECKS.due(name + "modules()", x.modules(), r.modules());
        } else {
            askSet(name, x, r, choice - 11, setFor(r));
        }
    }

    /** Often a strong module, as most numbers are none and would ask little. */
    private static int setFor(Reference r) {
        int u = next(r.n);
        int v = next(r.n);
        int choice = next(4);
        if (choice < 2) {
            return r.strongAround(u, v);
        }
        return choice == 2 ? r.around(u, v) : next((1 << r.n) + 4) - 2;
    }
}

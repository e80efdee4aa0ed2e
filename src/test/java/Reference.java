import java.util.ArrayList;
import java.util.List;

/** The document's words read as plainly as can be, to be held against the program. */
final class Reference {
    final int n;
    private final boolean[][] joined;
    private List<Integer> modules;
    private List<Integer> strong;

    Reference(int points) {
        n = Math.max(1, Math.min(8, points));
        joined = new boolean[n][n];
        learn();
    }

    boolean join(int u, int v, boolean to) {
        if (u < 0 || u >= n || v < 0 || v >= n || u == v) {
            return false;
        }
        joined[u][v] = to;
        joined[v][u] = to;
        learn();
        return true;
    }

    void complement() {
        for (int u = 0; u < n; u++) {
            for (int v = 0; v < n; v++) {
                joined[u][v] = u != v && !joined[u][v];
            }
        }
        learn();
    }

    boolean isModule(int set) {
        return modules.contains(set);
    }

    boolean isStrong(int set) {
        return strong.contains(set);
    }

    int around(int u, int v) {
        return smallestWith(u, v, modules);
    }

    int strongAround(int u, int v) {
        return smallestWith(u, v, strong);
    }

    int strong() {
        return strong.size();
    }

    int modules() {
        return modules.size();
    }

    int kind(int set) {
        if (!isStrong(set) || size(set) < 2) {
            return -2;
        }
        List<Integer> parts = childList(set);
        int pairs = 0;
        int met = 0;
        for (int a : parts) {
            for (int b : parts) {
                for (int u = 0; u < n; u++) {
                    for (int v = 0; v < n; v++) {
                        if (a != b && has(a, u) && has(b, v)) {
                            pairs++;
                            met += joined[u][v] ? 1 : 0;
                        }
                    }
                }
            }
        }
        return met == 0 ? 0 : met == pairs ? 1 : 2;
    }

    int children(int set) {
        return !isStrong(set) || size(set) < 2 ? -2 : childList(set).size();
    }

    int parent(int set) {
        if (!isStrong(set) || size(set) == n) {
            return -2;
        }
        int best = -2;
        for (int s : strong) {
            if (properlyWithin(set, s) && (best == -2 || size(s) < size(best))) {
                best = s;
            }
        }
        return best;
    }

    private void learn() {
        modules = new ArrayList<>();
        for (int set = 1; set < 1 << n; set++) {
            if (allOrNone(set)) {
                modules.add(set);
            }
        }
        strong = new ArrayList<>();
        for (int set : modules) {
            boolean crossed = false;
            for (int other : modules) {
                crossed |= cross(set, other);
            }
            if (!crossed) {
                strong.add(set);
            }
        }
    }

    private boolean allOrNone(int set) {
        for (int out = 0; out < n; out++) {
            int count = 0;
            for (int in = 0; in < n; in++) {
                count += has(set, in) && joined[out][in] ? 1 : 0;
            }
            if (!has(set, out) && count != 0 && count != size(set)) {
                return false;
            }
        }
        return true;
    }

    private boolean cross(int a, int b) {
        boolean common = false;
        boolean onlyA = false;
        boolean onlyB = false;
        for (int u = 0; u < n; u++) {
            common |= has(a, u) && has(b, u);
            onlyA |= has(a, u) && !has(b, u);
            onlyB |= has(b, u) && !has(a, u);
        }
        return common && onlyA && onlyB;
    }

    private int smallestWith(int u, int v, List<Integer> sets) {
        if (u < 0 || u >= n || v < 0 || v >= n) {
            return -1;
        }
        int best = -1;
        for (int set : sets) {
            if (has(set, u) && has(set, v) && (best == -1 || size(set) < size(best))) {
                best = set;
            }
        }
        return best;
    }

    private List<Integer> childList(int set) {
        List<Integer> children = new ArrayList<>();
        for (int s : strong) {
            boolean largest = properlyWithin(s, set);
            for (int between : strong) {
                largest &= !(properlyWithin(s, between) && properlyWithin(between, set));
            }
            if (largest) {
                children.add(s);
            }
        }
        return children;
    }

    private static boolean properlyWithin(int part, int whole) {
        return part != whole && (part | whole) == whole;
    }

    private static boolean has(int set, int u) {
        return (set >> u & 1) == 1;
    }

    private static int size(int set) {
        return Integer.bitCount(set);
    }
}

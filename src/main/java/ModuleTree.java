/** The modules of a small graph and the tree that they make. */
public final class ModuleTree {
    public static final int LOOSE = 0;
    public static final int TIGHT = 1;
    public static final int PRIME = 2;
    public static final int BAD = -1;
    public static final int NONE = -2;

    private static final int MOST_POINTS = 8;

    /** near[u] is the set of the points joined to u; u itself is never in it. */
    private final int[] near = new int[MOST_POINTS];
    private final int n;
    /** The set of all points. It is always a strong module, as no set can have a point outside of it. */
    private final int all;

    public ModuleTree(int points) {
        if (points < 1) {
            n = 1;
        } else if (points > MOST_POINTS) {
            n = MOST_POINTS;
        } else {
            n = points;
        }
        all = (1 << n) - 1;
    }

    public boolean join(int u, int v, boolean joined) {
        if (!isPoint(u) || !isPoint(v) || u == v) {
            return false;
        }
        if (joined) {
            near[u] |= 1 << v;
            near[v] |= 1 << u;
        } else {
            near[u] &= ~(1 << v);
            near[v] &= ~(1 << u);
        }
        return true;
    }

    public void complement() {
        for (int u = 0; u < n; u++) {
            near[u] ^= all & ~(1 << u);
        }
    }

    public boolean isModule(int set) {
        if (set < 1 || set > all) {
            return false;
        }
        for (int u = 0; u < n; u++) {
            int seen = near[u] & set;
            boolean outside = (set & (1 << u)) == 0;
            if (outside && seen != 0 && seen != set) {
                return false;
            }
        }
        return true;
    }

    public boolean isStrong(int set) {
        if (!isModule(set)) {
            return false;
        }
        for (int other = 1; other <= all; other++) {
            if (cross(set, other) && isModule(other)) {
                return false;
            }
        }
        return true;
    }

    public int around(int u, int v) {
        if (!isPoint(u) || !isPoint(v)) {
            return BAD;
        }
        int pair = (1 << u) | (1 << v);
        // Modules that share a point meet in a module, so the smallest one lies within every
        // other that has the pair: its number is the least, and the first found is the one.
        for (int set = pair; set < all; set++) {
            if (isWithin(pair, set) && isModule(set)) {
                return set;
            }
        }
        return all;
    }

    public int strongAround(int u, int v) {
        if (!isPoint(u) || !isPoint(v)) {
            return BAD;
        }
        int pair = (1 << u) | (1 << v);
        return firstStrong(pair, pair);
    }

    public int strong() {
        int count = 0;
        for (int set = 1; set <= all; set++) {
            if (isStrong(set)) {
                count++;
            }
        }
        return count;
    }

    public int modules() {
        int count = 0;
        for (int set = 1; set <= all; set++) {
            if (isModule(set)) {
                count++;
            }
        }
        return count;
    }

    public int kind(int set) {
        if (!hasChildren(set)) {
            return NONE;
        }
        boolean noneJoined = true;
        boolean allJoined = true;
        for (int u = 0; u < n; u++) {
            if ((set & (1 << u)) != 0) {
                int others = set & ~childWith(set, u);
                int seen = near[u] & others;
                noneJoined = noneJoined && seen == 0;
                allJoined = allJoined && seen == others;
            }
        }
        if (noneJoined) {
            return LOOSE;
        }
        return allJoined ? TIGHT : PRIME;
    }

    public int children(int set) {
        if (!hasChildren(set)) {
            return NONE;
        }
        int count = 0;
        int left = set;
        for (int u = 0; u < n; u++) {
            if ((left & (1 << u)) != 0) {
                left &= ~childWith(set, u);
                count++;
            }
        }
        return count;
    }

    public int parent(int set) {
        if (set == all || !isStrong(set)) {
            return NONE;
        }
        return firstStrong(set, set + 1);
    }

    private boolean isPoint(int u) {
        return u >= 0 && u < n;
    }

    private static boolean isWithin(int part, int whole) {
        return (part & whole) == part;
    }

    private static boolean cross(int a, int b) {
        return (a & b) != 0 && (a & ~b) != 0 && (b & ~a) != 0;
    }

    private boolean hasChildren(int set) {
        boolean twoOrMore = (set & (set - 1)) != 0;
        return twoOrMore && isStrong(set);
    }

    /**
     * The smallest strong module with all points of part (which is not empty) and a number not
     * below from. Strong modules that share a point lie one within the other, and a set's number
     * is above those of the sets within it, so the first found is the smallest.
     */
    private int firstStrong(int part, int from) {
        for (int set = from; set < all; set++) {
            if (isWithin(part, set) && isStrong(set)) {
                return set;
            }
        }
        return all;
    }

    /**
     * The child of a strong module that has its point u. The strong modules with u lie one within
     * the other, so going down in number the first found is the largest; a single point is strong.
     */
    private int childWith(int set, int u) {
        int point = 1 << u;
        for (int child = set - 1; child > point; child--) {
            if (isWithin(point, child) && isWithin(child, set) && isStrong(child)) {
                return child;
            }
        }
        return point;
    }
}

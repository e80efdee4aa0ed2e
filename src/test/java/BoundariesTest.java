import java.util.function.IntConsumer;

/**
 * Each sentence of the document that names a boundary case has a method of its own here: the edge
 * itself, both sides of it, and for an int argument the least and the greatest int. That a refused
 * call changes nothing is in RefusedCallsTest, the limit of 512 calls in CallLimitTest.
 */
public final class BoundariesTest {
    private static final int LEAST = Numbers.LEAST;
    private static final int GREATEST = Numbers.GREATEST;
    private static final int BAD = ModuleTree.BAD;
    private static final int NONE = ModuleTree.NONE;
    private static final Checks CHECKS = new Checks();

    public static void main(String[] args) {
        pointsAreNumberedFromZero();
        aModuleIsNotEmpty();
        singlePointsAndAllPointsAreModules();
        pointsAreClamped();
        noTwoPointsAreJoinedAtFirst();
        joinRefusesWhatIsNoPoint();
        joinRefusesTheSamePointTwice();
        joinAnswersTrueElse();
        complementTurnsOverEveryPair();
        complementKeepsToDifferentPoints();
        isModuleIsFalseForNoSet();
        isStrongIsFalseForNoSet();
        aroundIsBadOutsideThePoints();
        aroundThePointItselfIsThatPointAlone();
        strongAroundIsBadOutsideThePoints();
        strongAtTheEdges();
        modulesAtTheEdges();
        kindIsNoneForEveryOtherNumber();
        kindAtItsOwnEdges();
        childrenIsNoneForEveryOtherNumber();
        parentIsNoneIfNotStrongOrAllPoints();
        CHECKS.end();
    }

    private static void due(String call, long got, long want) {
        CHECKS.due(call, got, want);
    }

    private static void due(String call, boolean got, boolean want) {
        CHECKS.due(call, got, want);
    }

    private static void forOneToEightPoints(IntConsumer check) {
        for (int n = 1; n <= 8; n++) {
            check.accept(n);
        }
    }

    // Terms: "There are n POINTS (1 to 8), numbered from 0"

    private static void pointsAreNumberedFromZero() {
        forOneToEightPoints(n -> {
            String name = "points 0 to n - 1 of " + n + ": ";
            ModuleTree x = new ModuleTree(n);
            for (int u = -2; u <= 9; u++) {
                boolean point = u >= 0 && u < n;
                due(name + "around(" + u + ", same)", x.around(u, u), point ? 1 << u : BAD);
                due(name + "strongAround(" + u + ", same)", x.strongAround(u, u), point ? 1 << u : BAD);
                due(name + "join(" + u + ", 0)", x.join(u, 0, false), point && u != 0);
            }
            for (int bit = 0; bit < 32; bit++) {
                due(name + "isModule(1 << " + bit + ")", x.isModule(1 << bit), bit < n);
            }
        });
    }

    // Terms: a module "is not empty"

    private static void aModuleIsNotEmpty() {
        for (Example e : Example.EXAMPLES) {
            String name = "the empty set, " + e.name() + ": ";
            ModuleTree x = e.make();
            due(name + "isModule(0)", x.isModule(0), false);
            due(name + "isModule(1)", x.isModule(1), true);
            due(name + "isModule(-1)", x.isModule(-1), false);
            due(name + "isStrong(0)", x.isStrong(0), false);
            due(name + "isStrong(1)", x.isStrong(1), true);
            due(name + "isStrong(-1)", x.isStrong(-1), false);
            due(name + "kind(0)", x.kind(0), NONE);
            due(name + "children(0)", x.children(0), NONE);
            due(name + "parent(0)", x.parent(0), NONE);
            due(name + "modules()", x.modules(), e.modules());
            due(name + "strong()", x.strong(), e.strong().size());
        }
    }

    // Terms: "(Single points and the set of all points are modules.)"

    private static void singlePointsAndAllPointsAreModules() {
        for (Example e : Example.EXAMPLES) {
            singlePointsAndAll(e.name(), e.make(), e.points());
            singlePointsAndAll(e.name() + " turned", Graphs.turned(e.make()), e.points());
        }
        forOneToEightPoints(n -> {
            singlePointsAndAll(n + ", none joined", new ModuleTree(n), n);
            singlePointsAndAll(n + ", all joined", Graphs.full(n), n);
            singlePointsAndAll(n + " in a line", Graphs.line(n), n);
        });
        // Just inside the edges, in a line no set is a module.
        for (int n = 4; n <= 8; n++) {
            int all = (1 << n) - 1;
            ModuleTree x = Graphs.line(n);
            for (int u = 0; u < n; u++) {
                due("line " + n + " isModule(all but " + u + ")", x.isModule(all & ~(1 << u)), false);
                int two = 1 << u | 1 << (u + 1) % n;
                due("line " + n + " isModule(" + two + ")", x.isModule(two), false);
            }
        }
    }

    private static void singlePointsAndAll(String name, ModuleTree x, int n) {
        int all = (1 << n) - 1;
        for (int u = 0; u < n; u++) {
            due(name + ": isModule(point " + u + ")", x.isModule(1 << u), true);
            due(name + ": isStrong(point " + u + ")", x.isStrong(1 << u), true);
        }
        due(name + ": isModule(all)", x.isModule(all), true);
        due(name + ": isStrong(all)", x.isStrong(all), true);
    }

    // Promise 1: "n is points clamped into 1..8; no two points are joined."

    private static void pointsAreClamped() {
        int[] toOne = {LEAST, LEAST + 1, -256, -9, -8, -7, -2, -1, 0, 1};
        for (int points : toOne) {
            hasPoints(points, 1);
        }
        for (int points = 1; points <= 8; points++) {
            hasPoints(points, points);
        }
        int[] toEight = {8, 9, 10, 16, 31, 32, 33, 40, 63, 64, 256, 257, 65537, GREATEST - 1, GREATEST};
        for (int points : toEight) {
            hasPoints(points, 8);
        }
    }

    private static void hasPoints(int given, int n) {
        String name = "new(" + given + "): ";
        int all = (1 << n) - 1;
        ModuleTree x = new ModuleTree(given);
        for (int u = -1; u <= 33; u++) {
            due(name + "around(" + u + ", same)", x.around(u, u), u >= 0 && u < n ? 1 << u : BAD);
        }
        due(name + "isModule(all)", x.isModule(all), true);
        due(name + "isModule(all + 1)", x.isModule(all + 1), false);
        due(name + "isStrong(all)", x.isStrong(all), true);
        due(name + "parent(all)", x.parent(all), NONE);
        due(name + "strongAround(0, last)", x.strongAround(0, n - 1), all);
        due(name + "children(all)", x.children(all), n == 1 ? NONE : n);
        due(name + "join(0, last)", x.join(0, n - 1, false), n > 1);
        due(name + "join(0, last + 1)", x.join(0, n, false), false);
    }

    private static void noTwoPointsAreJoinedAtFirst() {
        int[] given = {LEAST, 0, 1, 2, 3, 4, 5, 6, 7, 8, 9, GREATEST};
        for (int points : given) {
            int n = points < 1 ? 1 : points > 8 ? 8 : points;
            int all = (1 << n) - 1;
            String name = "at first, new(" + points + "): ";
            due(name + "joined pairs", Graphs.joinedPairs(() -> new ModuleTree(points), n), 0);
            ModuleTree x = new ModuleTree(points);
            due(name + "modules()", x.modules(), all);
            due(name + "kind(all)", x.kind(all), n == 1 ? NONE : ModuleTree.LOOSE);
        }
    }

    // Promise 2: "u or v outside 0..n-1 or u = v: refused, answers false. Else true."

    private static void joinRefusesWhatIsNoPoint() {
        forOneToEightPoints(n -> {
            int[] wrong = Numbers.outsideThePoints(n);
            for (int w : wrong) {
                for (int u = 0; u < n; u++) {
                    joinIsRefused(n, w, u);
                    joinIsRefused(n, u, w);
                }
                for (int other : wrong) {
                    joinIsRefused(n, w, other);
                }
            }
        });
    }

    private static void joinRefusesTheSamePointTwice() {
        forOneToEightPoints(n -> {
            for (int u = 0; u < n; u++) {
                joinIsRefused(n, u, u);
            }
        });
    }

    private static void joinIsRefused(int n, int u, int v) {
        String args = "(" + u + ", " + v + ", ";
        due(n + " points: join" + args + "true)", new ModuleTree(n).join(u, v, true), false);
        due(n + " points: join" + args + "false)", new ModuleTree(n).join(u, v, false), false);
        due(n + " points, all joined: join" + args + "true)", Graphs.full(n).join(u, v, true), false);
        due(n + " points, all joined: join" + args + "false)", Graphs.full(n).join(u, v, false), false);
    }

    private static void joinAnswersTrueElse() {
        forOneToEightPoints(n -> {
            ModuleTree x = new ModuleTree(n);
            for (int u = 0; u < n; u++) {
                for (int v = 0; v < n; v++) {
                    if (u != v) {
                        joinIsTaken(n, x, u, v);
                    }
                }
            }
        });
    }

    /** The second call of each kind changes nothing, and is not refused for that. */
    private static void joinIsTaken(int n, ModuleTree x, int u, int v) {
        String args = "(" + u + ", " + v + ", ";
        for (int time = 1; time <= 2; time++) {
            due(n + " points: join" + args + "true), time " + time, x.join(u, v, true), true);
        }
        due(n + " points: kind after join" + args + "true)", x.kind(1 << u | 1 << v), ModuleTree.TIGHT);
        for (int time = 1; time <= 2; time++) {
            due(n + " points: join" + args + "false), time " + time, x.join(u, v, false), true);
        }
        int parted = n == 2 ? ModuleTree.LOOSE : NONE;
        due(n + " points: kind after join" + args + "false)", x.kind(1 << u | 1 << v), parted);
    }

    // Promise 3: "Turns over which different points are joined."

    private static void complementTurnsOverEveryPair() {
        forOneToEightPoints(n -> {
            long every = Graphs.everyPair(n);
            String name = "complement of " + n + " points: ";
            due(name + "none joined", Graphs.joinedPairs(() -> Graphs.turned(new ModuleTree(n)), n), every);
            due(name + "all joined", Graphs.joinedPairs(() -> Graphs.turned(Graphs.full(n)), n), 0);
            due(name + "none joined, twice",
                Graphs.joinedPairs(() -> Graphs.turned(Graphs.turned(new ModuleTree(n))), n), 0);
            due(name + "all joined, twice",
                Graphs.joinedPairs(() -> Graphs.turned(Graphs.turned(Graphs.full(n))), n), every);
        });
        for (Example e : Example.EXAMPLES) {
            long pairs = Graphs.joinedPairs(e.maker(), e.points());
            long turned = Graphs.joinedPairs(() -> Graphs.turned(e.make()), e.points());
            due("complement, " + e.name() + ": joined pairs", turned, pairs ^ Graphs.everyPair(e.points()));
        }
    }

    private static void complementKeepsToDifferentPoints() {
        forOneToEightPoints(n -> {
            int all = (1 << n) - 1;
            String name = "after complement of " + n + " points: ";
            ModuleTree x = Graphs.turned(new ModuleTree(n));
            for (int u = 0; u < n; u++) {
                due(name + "isModule(point " + u + ")", x.isModule(1 << u), true);
                due(name + "around(" + u + ", same)", x.around(u, u), 1 << u);
                due(name + "strongAround(" + u + ", same)", x.strongAround(u, u), 1 << u);
                due(name + "kind(point " + u + ")", x.kind(1 << u), NONE);
                due(name + "join(" + u + ", same)", x.join(u, u, true), false);
            }
            due(name + "modules()", x.modules(), all);
            due(name + "strong()", x.strong(), n == 1 ? 1 : n + 1);
            due(name + "isModule(all + 1)", x.isModule(all + 1), false);
            due(name + "around(n, n)", x.around(n, n), BAD);
        });
    }

    // Promise 4: "false for numbers that are no set of points."

    private static void isModuleIsFalseForNoSet() {
        forOneToEightPoints(n -> {
            int all = (1 << n) - 1;
            for (int set = 1; set <= all; set++) {
                due(n + " points: isModule(" + set + ")", new ModuleTree(n).isModule(set), true);
                due(n + " points, all joined: isModule(" + set + ")", Graphs.full(n).isModule(set), true);
            }
            for (int set : Numbers.noSets(n)) {
                due(n + " points: isModule(" + set + ")", new ModuleTree(n).isModule(set), false);
                due(n + " points, all joined: isModule(" + set + ")", Graphs.full(n).isModule(set), false);
                due(n + " points in a line: isModule(" + set + ")", Graphs.line(n).isModule(set), false);
            }
        });
    }

    // Promise 5: "false for numbers that are no set of points."

    private static void isStrongIsFalseForNoSet() {
        for (Example e : Example.EXAMPLES) {
            for (int set : Numbers.setsAndNoSets(e.points())) {
                due(e.name() + ": isStrong(" + set + ")", e.make().isStrong(set), e.isStrong(set));
            }
        }
        forOneToEightPoints(n -> {
            for (int set : Numbers.noSets(n)) {
                due(n + " points: isStrong(" + set + ")", new ModuleTree(n).isStrong(set), false);
                due(n + " points, all joined: isStrong(" + set + ")", Graphs.full(n).isStrong(set), false);
            }
        });
    }

    // Promise 6: "BAD if u or v is outside 0..n-1. (For u = v that point alone.)"

    private static void aroundIsBadOutsideThePoints() {
        forOneToEightPoints(n -> {
            String name = n + " points: around";
            int[] wrong = Numbers.outsideThePoints(n);
            for (int w : wrong) {
                for (int u = 0; u < n; u++) {
                    due(name + "(" + w + ", " + u + ")", new ModuleTree(n).around(w, u), BAD);
                    due(name + "(" + u + ", " + w + ")", new ModuleTree(n).around(u, w), BAD);
                }
                for (int other : wrong) {
                    due(name + "(" + w + ", " + other + ")", new ModuleTree(n).around(w, other), BAD);
                }
            }
            for (int u = 0; u < n; u++) {
                for (int v = 0; v < n; v++) {
                    due(name + "(" + u + ", " + v + ")", new ModuleTree(n).around(u, v), 1 << u | 1 << v);
                }
            }
        });
    }

    private static void aroundThePointItselfIsThatPointAlone() {
        for (Example e : Example.EXAMPLES) {
            ModuleTree x = e.make();
            for (int u = 0; u < e.points(); u++) {
                due(e.name() + ": around(" + u + ", same)", x.around(u, u), 1 << u);
            }
            for (int w : Numbers.outsideThePoints(e.points())) {
                due(e.name() + ": around(" + w + ", same)", x.around(w, w), BAD);
            }
        }
        // Beside the edge: two points that differ are never that point alone.
        ModuleTree line = Graphs.line(8);
        for (int u = 1; u < 8; u++) {
            due("line of eight: around(" + (u - 1) + ", " + u + ")", line.around(u - 1, u), 255);
        }
    }

    // Promise 7: "BAD if u or v is outside 0..n-1."

    private static void strongAroundIsBadOutsideThePoints() {
        forOneToEightPoints(n -> {
            String name = n + " points: strongAround";
            int all = (1 << n) - 1;
            int[] wrong = Numbers.outsideThePoints(n);
            for (int w : wrong) {
                for (int u = 0; u < n; u++) {
                    due(name + "(" + w + ", " + u + ")", new ModuleTree(n).strongAround(w, u), BAD);
                    due(name + "(" + u + ", " + w + ")", new ModuleTree(n).strongAround(u, w), BAD);
                }
                for (int other : wrong) {
                    due(name + "(" + w + ", " + other + ")", new ModuleTree(n).strongAround(w, other), BAD);
                }
            }
            for (int u = 0; u < n; u++) {
                for (int v = 0; v < n; v++) {
                    int want = u == v ? 1 << u : all;
                    due(name + "(" + u + ", " + v + ")", new ModuleTree(n).strongAround(u, v), want);
                }
            }
        });
    }

    // Promise 8: "The number of strong modules."

    private static void strongAtTheEdges() {
        due("one point: strong()", new ModuleTree(1).strong(), 1);
        due("one point turned: strong()", Graphs.turned(new ModuleTree(1)).strong(), 1);
        for (int n = 2; n <= 8; n++) {
            due(n + " points, none joined: strong()", new ModuleTree(n).strong(), n + 1);
            due(n + " points, all joined: strong()", Graphs.full(n).strong(), n + 1);
            due(n + " points turned: strong()", Graphs.turned(new ModuleTree(n)).strong(), n + 1);
        }
        // Beside the edge: one pair apart from the others is one more strong module.
        for (int n = 3; n <= 8; n++) {
            due(n + " points, one pair joined: strong()", Graphs.graph(n, 0, n - 1).strong(), n + 2);
            ModuleTree x = Graphs.full(n);
            x.join(n - 1, 0, false);
            due(n + " points, one pair parted: strong()", x.strong(), n + 2);
        }
        due("the most, nested eight: strong()", Graphs.nested8().strong(), 15);
    }

    // Promise 9: "The number of modules."

    private static void modulesAtTheEdges() {
        due("one point: modules()", new ModuleTree(1).modules(), 1);
        due("one point turned: modules()", Graphs.turned(new ModuleTree(1)).modules(), 1);
        int[] most = {3, 7, 15, 31, 63, 127, 255};
        for (int n = 2; n <= 8; n++) {
            int want = most[n - 2];
            due(n + " points, none joined: modules()", new ModuleTree(n).modules(), want);
            due(n + " points, all joined: modules()", Graphs.full(n).modules(), want);
            due(n + " points turned: modules()", Graphs.turned(new ModuleTree(n)).modules(), want);
        }
        // Beside the edge: the pair counts as one among n - 1 parts, and its two points by themselves.
        int[] withOnePair = {5, 9, 17, 33, 65, 129};
        for (int n = 3; n <= 8; n++) {
            int want = withOnePair[n - 3];
            due(n + " points, one pair joined: modules()", Graphs.graph(n, 0, n - 1).modules(), want);
            ModuleTree x = Graphs.full(n);
            x.join(n - 1, 0, false);
            due(n + " points, one pair parted: modules()", x.modules(), want);
        }
        // The fewest: the points and the set of all.
        for (int n = 4; n <= 8; n++) {
            due(n + " points in a line: modules()", Graphs.line(n).modules(), n + 1);
        }
    }

    // Promise 10: "for a strong module with two points or more; NONE for every other number."

    private static void kindIsNoneForEveryOtherNumber() {
        for (Example e : Example.EXAMPLES) {
            for (int set : Numbers.setsAndNoSets(e.points())) {
                due(e.name() + ": kind(" + set + ")", e.make().kind(set), e.kind(set));
            }
        }
    }

    /** One joined pair too many for LOOSE, one too few for TIGHT. */
    private static void kindAtItsOwnEdges() {
        for (int n = 4; n <= 8; n++) {
            int all = (1 << n) - 1;
            ModuleTree line = Graphs.line(n);
            due("line of " + n + ": kind(all)", line.kind(all), ModuleTree.PRIME);
            due("line of " + n + " turned: kind(all)", Graphs.turned(line).kind(all), ModuleTree.PRIME);
            ModuleTree parted = Graphs.line(n);
            parted.join(0, 1, false);
            due("line of " + n + " but for 0-1: kind(all)", parted.kind(all), ModuleTree.LOOSE);
            due("line of " + n + " but for 0-1, turned: kind(all)",
                Graphs.turned(parted).kind(all), ModuleTree.TIGHT);
        }
    }

    // Promise 11: "of a strong module with two points or more; NONE for every other number."

    private static void childrenIsNoneForEveryOtherNumber() {
        for (Example e : Example.EXAMPLES) {
            for (int set : Numbers.setsAndNoSets(e.points())) {
                due(e.name() + ": children(" + set + ")", e.make().children(set), e.children(set));
            }
        }
    }

    // Promise 12: "NONE if the set is not a strong module or has all points."

    private static void parentIsNoneIfNotStrongOrAllPoints() {
        for (Example e : Example.EXAMPLES) {
            for (int set : Numbers.setsAndNoSets(e.points())) {
                due(e.name() + ": parent(" + set + ")", e.make().parent(set), e.parent(set));
            }
        }
        forOneToEightPoints(n -> {
            int all = (1 << n) - 1;
            due(n + " points: parent(all)", new ModuleTree(n).parent(all), NONE);
            due(n + " points: parent(all + 1)", new ModuleTree(n).parent(all + 1), NONE);
            due(n + " points: parent(last)", new ModuleTree(n).parent(1 << (n - 1)), n == 1 ? NONE : all);
        });
    }
}

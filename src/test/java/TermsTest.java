import java.util.ArrayList;
import java.util.Arrays;
import java.util.List;

/** Each sentence of the document's section 'Terms', on graphs worked out by hand. */
public final class TermsTest {
    private static final Checks CHECKS = new Checks();

    public static void main(String[] args) {
        joinedSpeaksOfTwoPointsAlike();
        bitOfASetSpeaksOfThatPoint();
        moduleSeenAlikeFromOutside();
        crossNeedsACommonPoint();
        crossNeedsAPointOfItsOwnOnEachSide();
        strongCrossesNoModule();
        childrenAreTheLargest();
        childrenMakeUpTheWhole();
        looseTightAndPrime();
        pairsWithinAChildDoNotCount();
        CHECKS.end();
    }

    private static void due(String call, long got, long want) {
        CHECKS.due(call, got, want);
    }

    private static void due(String call, boolean got, boolean want) {
        CHECKS.due(call, got, want);
    }

    // "two different points are JOINED or not."

    /** A third point would tell the two apart if only one of them knew of the join. */
    private static void joinedSpeaksOfTwoPointsAlike() {
        for (int u = 0; u < 8; u++) {
            for (int v = 0; v < 8; v++) {
                if (u != v) {
                    joinedAlike(u, v);
                }
            }
        }
    }

    private static void joinedAlike(int u, int v) {
        String name = "join(" + u + ", " + v + ", true): ";
        ModuleTree x = Graphs.graph(8, u, v);
        for (int third = 0; third < 8; third++) {
            if (third != u && third != v) {
                due(name + "isModule(first and " + third + ")", x.isModule(1 << u | 1 << third), false);
                due(name + "isModule(second and " + third + ")", x.isModule(1 << v | 1 << third), false);
            }
        }
        x.join(v, u, false);
        due(name + "modules() when parted the other way round", x.modules(), 255);
    }

    // "A set of points is written as a number whose bit u speaks of point u."

    private static void bitOfASetSpeaksOfThatPoint() {
        for (int u = 0; u < 8; u++) {
            for (int v = 0; v < u; v++) {
                String name = "only " + v + "-" + u + " joined: ";
                ModuleTree x = Graphs.graph(8, u, v);
                int pair = 1 << u | 1 << v;
                due(name + "isStrong(" + pair + ")", x.isStrong(pair), true);
                due(name + "kind(" + pair + ")", x.kind(pair), ModuleTree.TIGHT);
                due(name + "parent(" + (1 << u) + ")", x.parent(1 << u), pair);
                due(name + "parent(" + (1 << v) + ")", x.parent(1 << v), pair);
                due(name + "strongAround", x.strongAround(v, u), pair);
            }
        }
    }

    // "A set is a MODULE iff it is not empty and every point outside of it is joined to all of its
    // points or to none of them."

    private static void moduleSeenAlikeFromOutside() {
        modulesAre("line of three", 3, Graphs.line(3), 1, 2, 4, 5, 7);
        modulesAre("line of four", 4, Graphs.line4(), 1, 2, 4, 8, 15);
        modulesAre("ring of four", 4, Graphs.graph(4, 0, 1, 1, 2, 2, 3, 3, 0), 1, 2, 4, 8, 5, 10, 15);
        modulesAre("star of four", 4, Graphs.graph(4, 3, 0, 3, 1, 3, 2), 1, 2, 4, 8, 3, 5, 6, 7, 15);
        modulesAre("two pairs", 4, Graphs.graph(4, 0, 3, 1, 2), 1, 2, 4, 8, 9, 6, 15);
        modulesAre("mixed seven", 7, Graphs.mixed7(), 1, 2, 4, 8, 16, 32, 64, 15, 48, 63, 79, 112, 127);
        modulesAre("primes within a prime", 8, Graphs.primes8(), 1, 2, 4, 8, 16, 32, 64, 128, 113, 136, 255);
    }

    private static void modulesAre(String name, int points, ModuleTree x, int... modules) {
        List<Integer> due = Arrays.stream(modules).boxed().toList();
        for (int set = 0; set < 1 << points; set++) {
            due(name + ": isModule(" + set + ")", x.isModule(set), due.contains(set));
        }
        due(name + ": modules()", x.modules(), due.size());
    }

    // "Two sets CROSS iff they have a point in common and each has a point that the other has not."

    private static void crossNeedsACommonPoint() {
        ModuleTree ring = Graphs.graph(4, 0, 1, 1, 2, 2, 3, 3, 0);
        due("nothing in common: isStrong(5)", ring.isStrong(5), true);
        due("nothing in common: isStrong(10)", ring.isStrong(10), true);
        ModuleTree loose = new ModuleTree(3);
        for (int set : new int[] {3, 5, 6}) {
            due("a point in common: isModule(" + set + ")", loose.isModule(set), true);
            due("a point in common: isStrong(" + set + ")", loose.isStrong(set), false);
        }
    }

    private static void crossNeedsAPointOfItsOwnOnEachSide() {
        ModuleTree nested = Graphs.nested8();
        for (int set : new int[] {1, 3, 7, 15, 31, 63, 127, 255}) {
            due("one within the other: isStrong(" + set + ")", nested.isStrong(set), true);
        }
        // The star's three ends are crossed neither by the sets within them nor by the whole.
        ModuleTree star = Graphs.graph(4, 3, 0, 3, 1, 3, 2);
        due("star: isStrong(7)", star.isStrong(7), true);
        for (int set : new int[] {3, 5, 6}) {
            due("star: isStrong(" + set + ")", star.isStrong(set), false);
        }
    }

    // "A module is STRONG iff it crosses no module."

    private static void strongCrossesNoModule() {
        ModuleTree x = Graphs.mixed7();
        // 48 and 80 cross, but 80 is no module; 48 and 112 do not cross; 112 and 79 do.
        due("mixed: isModule(80)", x.isModule(80), false);
        due("mixed: isStrong(48)", x.isStrong(48), true);
        due("mixed: isModule(79)", x.isModule(79), true);
        due("mixed: isStrong(79)", x.isStrong(79), false);
        due("mixed: isStrong(112)", x.isStrong(112), false);
        // No module crosses it, but it is none itself.
        ModuleTree line = Graphs.line4();
        for (int set : new int[] {3, 5, 6, 7, 9, 10, 11, 12, 13, 14}) {
            due("line of four: isStrong(" + set + ")", line.isStrong(set), false);
        }
    }

    // "The CHILDREN of a strong module with two points or more are the largest strong modules that
    // are smaller than it and within it (they have no points in common and make it up)."

    private static void childrenAreTheLargest() {
        // Fourteen strong modules lie within it, and all but two within another of them.
        due("nested: children(255)", Graphs.nested8().children(255), 2);
        due("mixed: children(127)", Graphs.mixed7().children(127), 3);
        due("primes: children(255)", Graphs.primes8().children(255), 4);
        due("primes: children(113)", Graphs.primes8().children(113), 4);
        due("primes: children(136)", Graphs.primes8().children(136), 2);
        // 3, 5 and 6 are larger than the points, but not strong.
        due("three points: children(7)", new ModuleTree(3).children(7), 3);
        due("two points: children(3)", new ModuleTree(2).children(3), 2);
    }

    private static void childrenMakeUpTheWhole() {
        for (Example e : Example.EXAMPLES) {
            ModuleTree x = e.make();
            for (int set : e.strong().keySet()) {
                if (e.kind(set) != ModuleTree.NONE) {
                    madeUpOfChildren(e, x, set);
                }
            }
        }
    }

    private static void madeUpOfChildren(Example e, ModuleTree x, int set) {
        List<Integer> children = new ArrayList<>();
        for (int child : e.strong().keySet()) {
            if (x.parent(child) == set) {
                children.add(child);
            }
        }
        String name = e.name() + ": children of " + set + ", ";
        due(name + "their number", x.children(set), children.size());
        // A sum without carry: no point stands in two of them, and none is missing.
        due(name + "their sum", children.stream().mapToInt(child -> child).sum(), set);
        due(name + "their union", children.stream().reduce(0, (a, b) -> a | b), set);
    }

    // "Such a module is LOOSE iff no two points in different children of it are joined, TIGHT iff
    // all are, and else it is PRIME."

    private static void looseTightAndPrime() {
        due("none joined", new ModuleTree(5).kind(31), ModuleTree.LOOSE);
        due("all joined", Graphs.full(5).kind(31), ModuleTree.TIGHT);
        due("ring of five", Graphs.graph(5, 0, 1, 1, 2, 2, 3, 3, 4, 4, 0).kind(31), ModuleTree.PRIME);
        // From none joined to all: the order of the joins goes by a prime graph.
        int[] pairs = {0, 1, 1, 2, 2, 3, 3, 0, 0, 2, 1, 3};
        int[] kinds = {ModuleTree.LOOSE, ModuleTree.LOOSE, ModuleTree.PRIME,
            ModuleTree.TIGHT, ModuleTree.TIGHT, ModuleTree.TIGHT};
        ModuleTree x = new ModuleTree(4);
        for (int i = 0; i < kinds.length; i++) {
            x.join(pairs[2 * i], pairs[2 * i + 1], true);
            due("after join " + (i + 1) + ": kind(15)", x.kind(15), kinds[i]);
        }
    }

    private static void pairsWithinAChildDoNotCount() {
        ModuleTree x = Graphs.mixed7();
        due("loose, joined pairs within its children: kind(127)", x.kind(127), ModuleTree.LOOSE);
        x.complement();
        due("tight, parted pairs within its children: kind(127)", x.kind(127), ModuleTree.TIGHT);
        ModuleTree primes = Graphs.primes8();
        due("primes: kind(255)", primes.kind(255), ModuleTree.PRIME);
        due("primes: kind(113)", primes.kind(113), ModuleTree.PRIME);
        due("primes: kind(136)", primes.kind(136), ModuleTree.TIGHT);
    }
}

/** Each promise by hand-worked examples: ordinary inputs, the edges, and wrong inputs. */
public final class PromisesTest {
    private static final int LOW = Numbers.LEAST;
    private static final int HIGH = Numbers.GREATEST;
    private static final Checks CHECKS = new Checks();

    public static void main(String[] args) {
        newObject();
        objectsStandApart();
        join();
        refusedJoinChangesNothing();
        complement();
        isModule();
        isStrong();
        around();
        strongAround();
        strong();
        modules();
        kind();
        children();
        parent();
        questionsChangeNothing();
        answersFollowEachChange();
        CHECKS.end();
    }

    private static void due(String call, long got, long want) {
        CHECKS.due(call, got, want);
    }

    private static void due(String call, boolean got, boolean want) {
        CHECKS.due(call, got, want);
    }

    // Promise 1: "n is points clamped into 1..8; no two points are joined."

    private static void newObject() {
        int[] given = {LOW, -1, 0, 1, 2, 3, 4, 5, 6, 7, 8, 9, 31, 32, 33, HIGH};
        int[] points = {1, 1, 1, 1, 2, 3, 4, 5, 6, 7, 8, 8, 8, 8, 8, 8};
        for (int i = 0; i < given.length; i++) {
            String made = "new(" + given[i] + ") ";
            int n = points[i];
            int all = (1 << n) - 1;
            ModuleTree x = new ModuleTree(given[i]);
            // Where no two points are joined, every set that is not empty is a module.
            due(made + "modules()", x.modules(), all);
            due(made + "isModule(all)", x.isModule(all), true);
            due(made + "isModule(all + 1)", x.isModule(all + 1), false);
            due(made + "around(n - 1, n - 1)", x.around(n - 1, n - 1), 1 << (n - 1));
            due(made + "around(n, n)", x.around(n, n), ModuleTree.BAD);
            due(made + "kind(all)", x.kind(all), n == 1 ? ModuleTree.NONE : ModuleTree.LOOSE);
        }
    }

    private static void objectsStandApart() {
        ModuleTree x = new ModuleTree(2);
        ModuleTree y = new ModuleTree(3);
        x.join(0, 1, true);
        due("apart: y.kind(7)", y.kind(7), ModuleTree.LOOSE);
        due("apart: x.kind(3)", x.kind(3), ModuleTree.TIGHT);
        due("apart: x.kind(7)", x.kind(7), ModuleTree.NONE);
    }

    // Promise 2: "Joins two points (true) or parts them."

    private static void join() {
        ModuleTree x = new ModuleTree(3);
        due("join(0, 1, true)", x.join(0, 1, true), true);
        due("join: isModule(3)", x.isModule(3), true);
        due("join: isModule(5)", x.isModule(5), false);
        due("join: isModule(6)", x.isModule(6), false);
        due("join(1, 0, true) again", x.join(1, 0, true), true);
        due("join again: isModule(5)", x.isModule(5), false);
        due("join(1, 0, false)", x.join(1, 0, false), true);
        due("parted: modules()", x.modules(), 7);
        due("join(0, 1, false) again", x.join(0, 1, false), true);
        due("parted again: modules()", x.modules(), 7);

        ModuleTree tight = Graphs.graph(3, 2, 0, 2, 1, 1, 0);
        due("joined all: kind(7)", tight.kind(7), ModuleTree.TIGHT);
        due("join(2, 1, false)", tight.join(2, 1, false), true);
        due("parted 2-1: kind(6)", tight.kind(6), ModuleTree.LOOSE);
        due("parted 2-1: kind(7)", tight.kind(7), ModuleTree.TIGHT);
    }

    // Promise 2: "u or v outside 0..n-1 or u = v: refused, answers false. Else true."

    private static void refusedJoinChangesNothing() {
        int[] wrong = {LOW, -32, -1, 4, 5, 7, 8, 32, 33, HIGH};
        ModuleTree x = Graphs.line4();
        for (int w : wrong) {
            for (int good = 0; good < 4; good++) {
                due("join(" + w + ", " + good + ", true)", x.join(w, good, true), false);
                due("join(" + good + ", " + w + ", false)", x.join(good, w, false), false);
            }
            due("join(" + w + ", " + w + ", true)", x.join(w, w, true), false);
        }
        for (int u = 0; u < 4; u++) {
            due("join(" + u + ", " + u + ", true)", x.join(u, u, true), false);
            due("join(" + u + ", " + u + ", false)", x.join(u, u, false), false);
        }
        due("refused: modules()", x.modules(), 5);
        due("refused: kind(15)", x.kind(15), ModuleTree.PRIME);
        due("refused: join(8, 0, true)", new ModuleTree(8).join(8, 0, true), false);
        due("refused: join(0, 8, true)", new ModuleTree(8).join(0, 8, true), false);
        due("not refused: join(7, 0, true)", new ModuleTree(8).join(7, 0, true), true);
    }

    // Promise 3: "Turns over which different points are joined."

    private static void complement() {
        for (int n = 2; n <= 8; n++) {
            int all = (1 << n) - 1;
            ModuleTree x = new ModuleTree(n);
            x.complement();
            due("complement " + n + ": kind(all)", x.kind(all), ModuleTree.TIGHT);
            due("complement " + n + ": children(all)", x.children(all), n);
            due("complement " + n + ": modules()", x.modules(), all);
            x.complement();
            due("complement twice " + n + ": kind(all)", x.kind(all), ModuleTree.LOOSE);
        }
        ModuleTree one = new ModuleTree(1);
        one.complement();
        due("complement 1: modules()", one.modules(), 1);
        due("complement 1: isModule(3)", one.isModule(3), false);

        ModuleTree mixed = Graphs.mixed7();
        mixed.complement();
        due("complement mixed: kind(127)", mixed.kind(127), ModuleTree.TIGHT);
        due("complement mixed: kind(48)", mixed.kind(48), ModuleTree.LOOSE);
        due("complement mixed: kind(15)", mixed.kind(15), ModuleTree.PRIME);
        mixed.join(4, 5, true);
        due("join after complement: children(127)", mixed.children(127), 4);
        due("join after complement: isStrong(48)", mixed.isStrong(48), false);
    }

    // Promise 4: "Whether a set is a module; false for numbers that are no set of points."

    private static void isModule() {
        ModuleTree x = Graphs.line4();
        for (int set = 1; set < 16; set++) {
            boolean want = set == 1 || set == 2 || set == 4 || set == 8 || set == 15;
            due("line isModule(" + set + ")", x.isModule(set), want);
        }
        ModuleTree y = Graphs.mixed7();
        due("mixed isModule(15)", y.isModule(15), true);
        due("mixed isModule(112)", y.isModule(112), true);
        due("mixed isModule(80)", y.isModule(80), false);
        due("mixed isModule(79)", y.isModule(79), true);
        due("mixed isModule(3)", y.isModule(3), false);
        for (int set : new int[] {LOW, LOW + 1, -128, -127, -1, 0, 128, 129, 256, HIGH}) {
            due("mixed isModule(" + set + ")", y.isModule(set), false);
        }
        due("eight isModule(255)", new ModuleTree(8).isModule(255), true);
        due("eight isModule(256)", new ModuleTree(8).isModule(256), false);
    }

    // Promise 5: "Whether a set is a strong module; false for numbers that are no set of points."

    private static void isStrong() {
        ModuleTree x = Graphs.mixed7();
        for (int set : new int[] {1, 2, 4, 8, 16, 32, 64, 15, 48, 127}) {
            due("mixed isStrong(" + set + ")", x.isStrong(set), true);
        }
        for (int set : new int[] {112, 79, 63}) {
            due("mixed isModule(" + set + ")", x.isModule(set), true);
            due("mixed isStrong(" + set + ")", x.isStrong(set), false);
        }
        for (int set : new int[] {LOW, LOW + 1, -128, -127, -1, 0, 3, 128, 129, 256, HIGH}) {
            due("mixed isStrong(" + set + ")", x.isStrong(set), false);
        }
        due("two isStrong(3)", new ModuleTree(2).isStrong(3), true);
        due("one isStrong(1)", new ModuleTree(1).isStrong(1), true);
        due("three isStrong(3)", new ModuleTree(3).isStrong(3), false);
    }

    // Promise 6: "The smallest module that has both points; BAD if u or v is outside 0..n-1. (For u = v
    // that point alone.)"

    private static void around() {
        ModuleTree x = Graphs.mixed7();
        due("around(0, 3)", x.around(0, 3), 15);
        due("around(3, 0)", x.around(3, 0), 15);
        due("around(4, 5)", x.around(4, 5), 48);
        due("around(4, 6)", x.around(4, 6), 112);
        due("around(6, 5)", x.around(6, 5), 112);
        due("around(0, 6)", x.around(0, 6), 79);
        due("around(2, 4)", x.around(2, 4), 63);
        for (int u = 0; u < 7; u++) {
            due("around(" + u + ", same)", x.around(u, u), 1 << u);
        }
        for (int w : new int[] {LOW, -32, -1, 7, 8, 32, 33, HIGH}) {
            due("around(" + w + ", 0)", x.around(w, 0), ModuleTree.BAD);
            due("around(6, " + w + ")", x.around(6, w), ModuleTree.BAD);
            due("around(" + w + ", same)", x.around(w, w), ModuleTree.BAD);
        }
        due("eight around(0, 7)", new ModuleTree(8).around(0, 7), 129);
        due("two around(1, 0)", new ModuleTree(2).around(1, 0), 3);
    }

    // Promise 7: "The smallest strong module that has both points; BAD if u or v is outside 0..n-1."

    private static void strongAround() {
        ModuleTree x = Graphs.mixed7();
        due("strongAround(0, 3)", x.strongAround(0, 3), 15);
        due("strongAround(3, 0)", x.strongAround(3, 0), 15);
        due("strongAround(4, 5)", x.strongAround(4, 5), 48);
        due("strongAround(4, 6)", x.strongAround(4, 6), 127);
        due("strongAround(6, 0)", x.strongAround(6, 0), 127);
        for (int u = 0; u < 7; u++) {
            due("strongAround(" + u + ", same)", x.strongAround(u, u), 1 << u);
        }
        for (int w : new int[] {LOW, -32, -1, 7, 8, 32, 33, HIGH}) {
            due("strongAround(" + w + ", 0)", x.strongAround(w, 0), ModuleTree.BAD);
            due("strongAround(6, " + w + ")", x.strongAround(6, w), ModuleTree.BAD);
            due("strongAround(" + w + ", same)", x.strongAround(w, w), ModuleTree.BAD);
        }
        due("eight strongAround(0, 7)", new ModuleTree(8).strongAround(0, 7), 255);
    }

    // Promise 8: "The number of strong modules."

    private static void strong() {
        due("one strong()", new ModuleTree(1).strong(), 1);
        due("two strong()", new ModuleTree(2).strong(), 3);
        due("eight strong()", new ModuleTree(8).strong(), 9);
        due("line strong()", Graphs.line4().strong(), 5);
        due("mixed strong()", Graphs.mixed7().strong(), 10);
        due("nested strong()", Graphs.nested8().strong(), 15);
    }

    // Promise 9: "The number of modules."

    private static void modules() {
        due("one modules()", new ModuleTree(1).modules(), 1);
        due("two modules()", new ModuleTree(2).modules(), 3);
        due("eight modules()", new ModuleTree(8).modules(), 255);
        due("line modules()", Graphs.line4().modules(), 5);
        due("mixed modules()", Graphs.mixed7().modules(), 13);
        due("nested modules()", Graphs.nested8().modules(), 15);
    }

    // Promise 10: "LOOSE, TIGHT or PRIME for a strong module with two points or more; NONE for every other
    // number."

    private static void kind() {
        ModuleTree x = Graphs.mixed7();
        due("kind(127)", x.kind(127), ModuleTree.LOOSE);
        due("kind(48)", x.kind(48), ModuleTree.TIGHT);
        due("kind(15)", x.kind(15), ModuleTree.PRIME);
        noneForOthers("kind", x, true);
        due("one kind(1)", new ModuleTree(1).kind(1), ModuleTree.NONE);
        ModuleTree y = Graphs.nested8();
        for (int u = 1; u < 8; u++) {
            int set = (1 << (u + 1)) - 1;
            due("nested kind(" + set + ")", y.kind(set), u % 2 == 1 ? ModuleTree.TIGHT : ModuleTree.LOOSE);
        }
    }

    // Promise 11: "The number of children of a strong module with two points or more; NONE for every other
    // number."

    private static void children() {
        ModuleTree x = Graphs.mixed7();
        due("children(127)", x.children(127), 3);
        due("children(48)", x.children(48), 2);
        due("children(15)", x.children(15), 4);
        noneForOthers("children", x, false);
        due("one children(1)", new ModuleTree(1).children(1), ModuleTree.NONE);
        due("eight children(255)", new ModuleTree(8).children(255), 8);
        ModuleTree y = Graphs.nested8();
        for (int u = 1; u < 8; u++) {
            int set = (1 << (u + 1)) - 1;
            due("nested children(" + set + ")", y.children(set), 2);
        }
    }

    private static void noneForOthers(String name, ModuleTree x, boolean askKind) {
        int[] others = {LOW, LOW + 1, -128, -127, -1, 0, 1, 2, 32, 64, 3, 112, 79, 63, 128, 255, 256, HIGH};
        for (int set : others) {
            int got = askKind ? x.kind(set) : x.children(set);
            due(name + "(" + set + ")", got, ModuleTree.NONE);
        }
    }

    // Promise 12: "The smallest strong module that has the set's points and more points than it; NONE if
    // the set is not a strong module or has all points."

    private static void parent() {
        ModuleTree x = Graphs.mixed7();
        due("parent(1)", x.parent(1), 15);
        due("parent(8)", x.parent(8), 15);
        due("parent(15)", x.parent(15), 127);
        due("parent(16)", x.parent(16), 48);
        due("parent(32)", x.parent(32), 48);
        due("parent(48)", x.parent(48), 127);
        due("parent(64)", x.parent(64), 127);
        for (int set : new int[] {LOW, LOW + 1, -128, -127, -1, 0, 3, 63, 79, 112, 127, 128, 255, 256, HIGH}) {
            due("parent(" + set + ")", x.parent(set), ModuleTree.NONE);
        }
        due("one parent(1)", new ModuleTree(1).parent(1), ModuleTree.NONE);
        due("one parent(2)", new ModuleTree(1).parent(2), ModuleTree.NONE);
        due("two parent(2)", new ModuleTree(2).parent(2), 3);
        due("eight parent(128)", new ModuleTree(8).parent(128), 255);
        due("eight parent(255)", new ModuleTree(8).parent(255), ModuleTree.NONE);
        ModuleTree y = Graphs.nested8();
        for (int u = 1; u < 8; u++) {
            int set = (1 << u) - 1;
            int wider = (1 << (u + 1)) - 1;
            due("nested parent(" + set + ")", y.parent(set), wider);
            due("nested parent(" + (1 << u) + ")", y.parent(1 << u), wider);
        }
    }

    private static void questionsChangeNothing() {
        ModuleTree x = Graphs.mixed7();
        for (int time = 0; time < 40; time++) {
            due("again strong()", x.strong(), 10);
            due("again modules()", x.modules(), 13);
            due("again kind(15)", x.kind(15), ModuleTree.PRIME);
            due("again children(127)", x.children(127), 3);
            due("again parent(16)", x.parent(16), 48);
            due("again around(0, 6)", x.around(0, 6), 79);
            due("again strongAround(4, 6)", x.strongAround(4, 6), 127);
            due("again isModule(112)", x.isModule(112), true);
            due("again isStrong(112)", x.isStrong(112), false);
        }
    }

    /** One object, asked the same before and after each change. */
    private static void answersFollowEachChange() {
        ModuleTree x = new ModuleTree(4);
        asAfter("new", x, 15, 5, ModuleTree.LOOSE, 4, 15, 5, 15);
        x.join(0, 1, true);
        x.join(1, 2, true);
        x.join(2, 3, true);
        asAfter("line", x, 5, 5, ModuleTree.PRIME, 4, 15, 15, 15);
        x.join(3, 0, true);
        asAfter("ring", x, 7, 7, ModuleTree.TIGHT, 2, 5, 5, 5);
        x.complement();
        asAfter("ring turned", x, 7, 7, ModuleTree.LOOSE, 2, 5, 5, 5);
        x.join(2, 0, false);
        asAfter("1-3 alone", x, 9, 6, ModuleTree.LOOSE, 3, 15, 5, 15);
        x.complement();
        asAfter("1-3 alone, turned", x, 9, 6, ModuleTree.TIGHT, 3, 15, 5, 15);
    }

    private static void asAfter(String name, ModuleTree x, int... want) {
        due(name + ": modules()", x.modules(), want[0]);
        due(name + ": strong()", x.strong(), want[1]);
        due(name + ": kind(15)", x.kind(15), want[2]);
        due(name + ": children(15)", x.children(15), want[3]);
        due(name + ": parent(1)", x.parent(1), want[4]);
        due(name + ": around(0, 2)", x.around(0, 2), want[5]);
        due(name + ": strongAround(0, 2)", x.strongAround(0, 2), want[6]);
        // The points 0 and 2 are the set 5.
        due(name + ": isModule(5)", x.isModule(5), want[5] == 5);
        due(name + ": isStrong(5)", x.isStrong(5), want[6] == 5);
    }
}

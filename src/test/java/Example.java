import java.util.List;
import java.util.Map;
import java.util.TreeMap;
import java.util.function.Supplier;

/** A graph and its tree, worked out by hand: each strong module is given, and no other set is one. */
record Example(String name, int points, int modules, Supplier<ModuleTree> maker, Map<Integer, Node> strong) {
    private static final int NONE = ModuleTree.NONE;
    private static final int LOOSE = ModuleTree.LOOSE;
    private static final int TIGHT = ModuleTree.TIGHT;
    private static final int PRIME = ModuleTree.PRIME;

    record Node(int kind, int children, int parent) {
    }

    static final List<Example> EXAMPLES = List.of(
        of("one", 1, 1, () -> new ModuleTree(1), new int[][] {{1, NONE, NONE, NONE}}),
        of("one turned", 1, 1, () -> Graphs.turned(new ModuleTree(1)), new int[][] {{1, NONE, NONE, NONE}}),
        of("two parted", 2, 3, () -> new ModuleTree(2), new int[][] {
            {1, NONE, NONE, 3}, {2, NONE, NONE, 3}, {3, LOOSE, 2, NONE}}),
        of("two joined", 2, 3, () -> Graphs.line(2), new int[][] {
            {1, NONE, NONE, 3}, {2, NONE, NONE, 3}, {3, TIGHT, 2, NONE}}),
        of("line of three", 3, 5, () -> Graphs.line(3), new int[][] {
            {1, NONE, NONE, 5}, {4, NONE, NONE, 5}, {2, NONE, NONE, 7}, {5, LOOSE, 2, 7}, {7, TIGHT, 2, NONE}}),
        of("line of four", 4, 5, () -> Graphs.line4(), new int[][] {
            {1, NONE, NONE, 15}, {2, NONE, NONE, 15}, {4, NONE, NONE, 15}, {8, NONE, NONE, 15},
            {15, PRIME, 4, NONE}}),
        of("ring of four", 4, 7, () -> Graphs.graph(4, 0, 1, 1, 2, 2, 3, 3, 0), new int[][] {
            {1, NONE, NONE, 5}, {4, NONE, NONE, 5}, {2, NONE, NONE, 10}, {8, NONE, NONE, 10},
            {5, LOOSE, 2, 15}, {10, LOOSE, 2, 15}, {15, TIGHT, 2, NONE}}),
        of("mixed seven", 7, 13, () -> Graphs.mixed7(), new int[][] {
            {1, NONE, NONE, 15}, {2, NONE, NONE, 15}, {4, NONE, NONE, 15}, {8, NONE, NONE, 15},
            {16, NONE, NONE, 48}, {32, NONE, NONE, 48}, {64, NONE, NONE, 127},
            {15, PRIME, 4, 127}, {48, TIGHT, 2, 127}, {127, LOOSE, 3, NONE}}),
        of("mixed seven turned", 7, 13, () -> Graphs.turned(Graphs.mixed7()), new int[][] {
            {1, NONE, NONE, 15}, {2, NONE, NONE, 15}, {4, NONE, NONE, 15}, {8, NONE, NONE, 15},
            {16, NONE, NONE, 48}, {32, NONE, NONE, 48}, {64, NONE, NONE, 127},
            {15, PRIME, 4, 127}, {48, LOOSE, 2, 127}, {127, TIGHT, 3, NONE}}),
        of("nested eight", 8, 15, () -> Graphs.nested8(), new int[][] {
            {1, NONE, NONE, 3}, {2, NONE, NONE, 3}, {4, NONE, NONE, 7}, {8, NONE, NONE, 15},
            {16, NONE, NONE, 31}, {32, NONE, NONE, 63}, {64, NONE, NONE, 127}, {128, NONE, NONE, 255},
            {3, TIGHT, 2, 7}, {7, LOOSE, 2, 15}, {15, TIGHT, 2, 31}, {31, LOOSE, 2, 63},
            {63, TIGHT, 2, 127}, {127, LOOSE, 2, 255}, {255, TIGHT, 2, NONE}}),
        of("line of four with a twin of its end", 5, 7, () -> Graphs.graph(5, 0, 1, 1, 2, 2, 3, 4, 1), new int[][] {
            {1, NONE, NONE, 17}, {16, NONE, NONE, 17}, {2, NONE, NONE, 31}, {4, NONE, NONE, 31},
            {8, NONE, NONE, 31}, {17, LOOSE, 2, 31}, {31, PRIME, 4, NONE}}),
        of("primes within a prime", 8, 11, () -> Graphs.primes8(), new int[][] {
            {1, NONE, NONE, 113}, {16, NONE, NONE, 113}, {32, NONE, NONE, 113}, {64, NONE, NONE, 113},
            {2, NONE, NONE, 255}, {4, NONE, NONE, 255}, {8, NONE, NONE, 136}, {128, NONE, NONE, 136},
            {113, PRIME, 4, 255}, {136, TIGHT, 2, 255}, {255, PRIME, 4, NONE}}),
        of("eight, none joined", 8, 255, () -> new ModuleTree(8), eightBeneath(LOOSE)),
        of("eight, all joined", 8, 255, () -> Graphs.full(8), eightBeneath(TIGHT)),
        of("line of eight", 8, 9, () -> Graphs.line(8), eightBeneath(PRIME)),
        of("line of eight turned", 8, 9, () -> Graphs.turned(Graphs.line(8)), eightBeneath(PRIME)));

    /** The eight points, and the set of all of them. */
    private static int[][] eightBeneath(int kind) {
        int[][] rows = new int[9][];
        for (int u = 0; u < 8; u++) {
            rows[u] = new int[] {1 << u, NONE, NONE, 255};
        }
        rows[8] = new int[] {255, kind, 8, NONE};
        return rows;
    }

    private static Example of(String name, int points, int modules, Supplier<ModuleTree> maker, int[][] rows) {
        Map<Integer, Node> strong = new TreeMap<>();
        for (int[] row : rows) {
            strong.put(row[0], new Node(row[1], row[2], row[3]));
        }
        return new Example(name, points, modules, maker, strong);
    }

    ModuleTree make() {
        return maker.get();
    }

    int all() {
        return (1 << points) - 1;
    }

    boolean isStrong(int set) {
        return strong.containsKey(set);
    }

    int kind(int set) {
        return isStrong(set) ? strong.get(set).kind() : NONE;
    }

    int children(int set) {
        return isStrong(set) ? strong.get(set).children() : NONE;
    }

    int parent(int set) {
        return isStrong(set) ? strong.get(set).parent() : NONE;
    }
}

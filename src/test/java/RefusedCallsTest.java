import java.util.ArrayList;
import java.util.List;
import java.util.function.Consumer;
import java.util.function.Supplier;

/**
 * A refused call leaves what later calls answer as it was: each call that a sentence of the
 * document refuses is made alone on a new object, and again many in a row.
 */
public final class RefusedCallsTest {
    private static final Checks CHECKS = new Checks();

    private record Call(String name, Consumer<ModuleTree> make) {
    }

    public static void main(String[] args) {
        for (Example e : Example.EXAMPLES) {
            List<Call> refused = refusedCalls(e);
            long pairs = Graphs.joinedPairs(e.maker(), e.points());
            for (Call call : refused) {
                nothingChanged(e, pairs, call);
            }
            for (Call manyAtOnce : inRows(refused)) {
                nothingChanged(e, pairs, manyAtOnce);
            }
        }
        CHECKS.end();
    }

    private static List<Call> refusedCalls(Example e) {
        List<Call> calls = new ArrayList<>();
        int n = e.points();
        for (int u = 0; u < n; u++) {
            addJoins(calls, u, u);
        }
        for (int w : Numbers.outsideThePoints(n)) {
            addPairCalls(calls, w, w);
            for (int u = 0; u < n; u++) {
                addPairCalls(calls, w, u);
                addPairCalls(calls, u, w);
            }
        }
        int all = e.all();
        int[] sets = {Numbers.LEAST, Numbers.LEAST + all, -256, -all, -2, -1, 0, all + 1, all + 2, 2 * all + 1,
            256, 256 + all, 65536 + all, Numbers.GREATEST - 1, Numbers.GREATEST};
        for (int set : sets) {
            addSetCalls(calls, set);
        }
        for (int set = 1; set <= all; set++) {
            if (e.kind(set) == ModuleTree.NONE) {
                addKindAndChildren(calls, set);
            }
            if (e.parent(set) == ModuleTree.NONE) {
                addParent(calls, set);
            }
        }
        return calls;
    }

    private static void addJoins(List<Call> calls, int u, int v) {
        String args = "(" + u + ", " + v;
        calls.add(new Call("join" + args + ", true)", x -> x.join(u, v, true)));
        calls.add(new Call("join" + args + ", false)", x -> x.join(u, v, false)));
    }

    private static void addPairCalls(List<Call> calls, int u, int v) {
        String args = "(" + u + ", " + v + ")";
        addJoins(calls, u, v);
        calls.add(new Call("around" + args, x -> x.around(u, v)));
        calls.add(new Call("strongAround" + args, x -> x.strongAround(u, v)));
    }

    private static void addSetCalls(List<Call> calls, int set) {
        calls.add(new Call("isModule(" + set + ")", x -> x.isModule(set)));
        calls.add(new Call("isStrong(" + set + ")", x -> x.isStrong(set)));
        addKindAndChildren(calls, set);
        addParent(calls, set);
    }

    private static void addKindAndChildren(List<Call> calls, int set) {
        calls.add(new Call("kind(" + set + ")", x -> x.kind(set)));
        calls.add(new Call("children(" + set + ")", x -> x.children(set)));
    }

    private static void addParent(List<Call> calls, int set) {
        calls.add(new Call("parent(" + set + ")", x -> x.parent(set)));
    }

    /** Rows that leave enough of an object's 512 calls to make its graph and to ask. */
    private static List<Call> inRows(List<Call> calls) {
        List<Call> rows = new ArrayList<>();
        int length = 300;
        for (int from = 0; from < calls.size(); from += length) {
            List<Call> row = calls.subList(from, Math.min(from + length, calls.size()));
            String name = row.size() + " refused calls after the first " + from;
            rows.add(new Call(name, x -> row.forEach(call -> call.make().accept(x))));
        }
        return rows;
    }

    private static void nothingChanged(Example e, long pairs, Call call) {
        String name = e.name() + ", after " + call.name() + ": ";
        Supplier<ModuleTree> maker = () -> {
            ModuleTree x = e.make();
            call.make().accept(x);
            return x;
        };
        CHECKS.due(name + "joined pairs", Graphs.joinedPairs(maker, e.points()), pairs);
        ModuleTree x = maker.get();
        CHECKS.due(name + "modules()", x.modules(), e.modules());
        CHECKS.due(name + "strong()", x.strong(), e.strong().size());
        CHECKS.due(name + "isModule(0)", x.isModule(0), false);
        CHECKS.due(name + "isModule(all + 1)", x.isModule(e.all() + 1), false);
        for (int set : e.strong().keySet()) {
            CHECKS.due(name + "isModule(" + set + ")", x.isModule(set), true);
            CHECKS.due(name + "isStrong(" + set + ")", x.isStrong(set), true);
            CHECKS.due(name + "kind(" + set + ")", x.kind(set), e.kind(set));
            CHECKS.due(name + "children(" + set + ")", x.children(set), e.children(set));
            CHECKS.due(name + "parent(" + set + ")", x.parent(set), e.parent(set));
        }
        for (int u = 0; u < e.points(); u++) {
            CHECKS.due(name + "around(" + u + ", same)", x.around(u, u), 1 << u);
        }
        CHECKS.due(name + "strongAround(0, n)", x.strongAround(0, e.points()), ModuleTree.BAD);
    }
}

import java.util.List;
import java.util.function.Consumer;
import java.util.function.ToLongFunction;

/**
 * "An object is used for at most 512 calls after it has been made": the 511th and the 512th call
 * are still answered as due, whatever the calls before were. The answers after them are free, but
 * by LANGUAGE.md (rule 7) no call may throw or fail to end.
 */
public final class CallLimitTest {
    private static final int MOST_CALLS = 512;
    private static final Checks CHECKS = new Checks();

    private record Question(String name, ToLongFunction<ModuleTree> ask, long due) {
    }

    /** What is due for the graph mixed7. */
    private static final List<Question> QUESTIONS = List.of(
        new Question("join(0, 6, true)", x -> x.join(0, 6, true) ? 1 : 0, 1),
        new Question("join(0, 7, true)", x -> x.join(0, 7, true) ? 1 : 0, 0),
        new Question("join(3, 3, true)", x -> x.join(3, 3, true) ? 1 : 0, 0),
        new Question("isModule(112)", x -> x.isModule(112) ? 1 : 0, 1),
        new Question("isModule(80)", x -> x.isModule(80) ? 1 : 0, 0),
        new Question("isStrong(48)", x -> x.isStrong(48) ? 1 : 0, 1),
        new Question("isStrong(112)", x -> x.isStrong(112) ? 1 : 0, 0),
        new Question("around(4, 6)", x -> x.around(4, 6), 112),
        new Question("around(7, 0)", x -> x.around(7, 0), ModuleTree.BAD),
        new Question("strongAround(4, 6)", x -> x.strongAround(4, 6), 127),
        new Question("strongAround(0, -1)", x -> x.strongAround(0, -1), ModuleTree.BAD),
        new Question("strong()", x -> x.strong(), 10),
        new Question("modules()", x -> x.modules(), 13),
        new Question("kind(127)", x -> x.kind(127), ModuleTree.LOOSE),
        new Question("kind(48)", x -> x.kind(48), ModuleTree.TIGHT),
        new Question("kind(15)", x -> x.kind(15), ModuleTree.PRIME),
        new Question("kind(112)", x -> x.kind(112), ModuleTree.NONE),
        new Question("children(127)", x -> x.children(127), 3),
        new Question("children(1)", x -> x.children(1), ModuleTree.NONE),
        new Question("parent(16)", x -> x.parent(16), 48),
        new Question("parent(127)", x -> x.parent(127), ModuleTree.NONE));

    /** What is due for seven points of which no two are joined. */
    private static final List<Question> QUESTIONS_AT_FIRST = List.of(
        new Question("join(2, 4, false)", x -> x.join(2, 4, false) ? 1 : 0, 1),
        new Question("join(-1, 4, true)", x -> x.join(-1, 4, true) ? 1 : 0, 0),
        new Question("isModule(112)", x -> x.isModule(112) ? 1 : 0, 1),
        new Question("isStrong(127)", x -> x.isStrong(127) ? 1 : 0, 1),
        new Question("around(4, 6)", x -> x.around(4, 6), 80),
        new Question("strongAround(4, 6)", x -> x.strongAround(4, 6), 127),
        new Question("strong()", x -> x.strong(), 8),
        new Question("modules()", x -> x.modules(), 127),
        new Question("kind(127)", x -> x.kind(127), ModuleTree.LOOSE),
        new Question("children(127)", x -> x.children(127), 7),
        new Question("parent(16)", x -> x.parent(16), 127));

    public static void main(String[] args) {
        for (Question question : QUESTIONS) {
            for (int before = MOST_CALLS - 2; before < MOST_CALLS; before++) {
                String name = question.name() + " as call " + (before + 1);
                answered(name + ", graph made last", question, graphMadeLast(before));
                answered(name + ", graph made first", question, graphMadeFirst(before));
            }
        }
        onlyJoins();
        onlyComplements();
        oneCallOverAndOver();
        changeAsCall511();
        callsBeyondTheLimitEnd();
        CHECKS.end();
    }

    private static void answered(String name, Question question, ModuleTree x) {
        CHECKS.due(name, question.ask().applyAsLong(x), question.due());
    }

    /** Calls of every method, taken and refused, in turn. */
    private static void anyCall(ModuleTree x, int time) {
        switch (time % 13) {
            case 0 -> x.join(time % 7, time % 5, true);
            case 1 -> x.join(time % 7, time % 3, false);
            case 2 -> x.complement();
            case 3 -> x.modules();
            case 4 -> x.join(7, time % 7, true);
            default -> anyQuestion(x, time);
        }
    }

    private static void anyQuestion(ModuleTree x, int time) {
        int set = time % 131 - 2;
        int u = time % 9 - 1;
        switch (time % 9) {
            case 0 -> x.isModule(set);
            case 1 -> x.isStrong(set);
            case 2 -> x.around(u, time % 7);
            case 3 -> x.strongAround(time % 7, u);
            case 4 -> x.strong();
            case 5 -> x.modules();
            case 6 -> x.kind(set);
            case 7 -> x.children(set);
            default -> x.parent(set);
        }
    }

    /** The last 21 calls say of each pair of the seven points whether it is joined. */
    private static ModuleTree graphMadeLast(int calls) {
        ModuleTree x = new ModuleTree(7);
        for (int time = 0; time < calls - 21; time++) {
            anyCall(x, time);
        }
        for (int u = 0; u < 7; u++) {
            for (int v = 0; v < u; v++) {
                x.join(u, v, u == v + 1 && u != 4 && u != 6);
            }
        }
        return x;
    }

    /** Four joins, then questions and refused calls alone. */
    private static ModuleTree graphMadeFirst(int calls) {
        ModuleTree x = Graphs.mixed7();
        for (int time = 4; time < calls; time++) {
            if (time % 10 == 0) {
                x.join(time % 7, time % 2 == 0 ? 7 : -1, true);
            } else {
                anyQuestion(x, time);
            }
        }
        return x;
    }

    private static void onlyJoins() {
        ModuleTree x = new ModuleTree(8);
        for (int call = 1; call <= MOST_CALLS; call++) {
            CHECKS.due("only joins, call " + call, x.join(call % 8, (call + 3) % 8, call % 3 != 0), true);
        }
        ModuleTree y = new ModuleTree(8);
        for (int call = 1; call <= MOST_CALLS - 1; call++) {
            y.join(0, 7, call % 2 == 1);
        }
        CHECKS.due("511 joins, then kind(129)", y.kind(129), ModuleTree.TIGHT);
    }

    private static void onlyComplements() {
        ModuleTree odd = new ModuleTree(8);
        for (int call = 1; call <= MOST_CALLS - 1; call++) {
            odd.complement();
        }
        CHECKS.due("511 complements, then kind(255)", odd.kind(255), ModuleTree.TIGHT);
        ModuleTree even = new ModuleTree(8);
        for (int call = 1; call <= MOST_CALLS - 2; call++) {
            even.complement();
        }
        CHECKS.due("510 complements, then kind(255)", even.kind(255), ModuleTree.LOOSE);
    }

    private static void oneCallOverAndOver() {
        for (Question question : QUESTIONS) {
            ModuleTree x = Graphs.mixed7();
            for (int call = 5; call <= MOST_CALLS; call++) {
                answered(question.name() + ", call " + call, question, x);
            }
        }
        for (Question question : QUESTIONS_AT_FIRST) {
            ModuleTree x = new ModuleTree(7);
            for (int call = 1; call <= MOST_CALLS; call++) {
                answered("new object, " + question.name() + ", call " + call, question, x);
            }
        }
    }

    /** A change so late is still a change. */
    private static void changeAsCall511() {
        ModuleTree joined = graphMadeFirst(MOST_CALLS - 2);
        CHECKS.due("join(4, 6, true) as call 511", joined.join(4, 6, true), true);
        CHECKS.due("kind(112) as call 512, after a join", joined.kind(112), ModuleTree.TIGHT);
        ModuleTree turned = graphMadeFirst(MOST_CALLS - 2);
        turned.complement();
        CHECKS.due("kind(127) as call 512, after complement", turned.kind(127), ModuleTree.TIGHT);
    }

    private static void callsBeyondTheLimitEnd() {
        int[] extremes = {Numbers.LEAST, -1, 0, 7, 8, 255, 256, Numbers.GREATEST};
        List<Consumer<ModuleTree>> calls = List.of(x -> x.complement(), x -> x.join(0, 1, true), x -> x.modules());
        for (Consumer<ModuleTree> call : calls) {
            ModuleTree x = new ModuleTree(8);
            for (int time = 0; time < 2 * MOST_CALLS; time++) {
                call.accept(x);
            }
            for (int a : extremes) {
                for (int b : extremes) {
                    x.join(a, b, true);
                    x.around(a, b);
                    x.strongAround(a, b);
                }
                x.isModule(a);
                x.isStrong(a);
                x.kind(a);
                x.children(a);
                x.parent(a);
            }
            x.strong();
        }
    }
}

import java.util.ArrayList;
import java.util.List;

/** Every short run of calls that change something, with few inputs, against the model. */
public final class SmallRunsTest {
    private static final int LONGEST_OF_ONE_INPUT = 4;
    private static final int LONGEST_OF_TWO_INPUTS = 3;

    private final int n;
    private final List<Call> changes = new ArrayList<>();

    private SmallRunsTest(int n) {
        this.n = n;
        for (int cube = 0; cube <= Edges.lastCube(n); cube++) {
            changes.add(Call.on(cube));
            changes.add(Call.dc(cube));
        }
        changes.add(Call.minimize());
    }

    public static void main(String[] args) {
        new SmallRunsTest(1).every(LONGEST_OF_ONE_INPUT, true, new ArrayList<>());
        new SmallRunsTest(2).every(LONGEST_OF_TWO_INPUTS, false, new ArrayList<>());
        Check.end();
    }

    private void every(int more, boolean everything, List<Call> run) {
        compare(run, everything);
        if (more == 0 || Check.wrongSoFar() >= 20) {
            return;
        }
        for (Call change : changes) {
            run.add(change);
            every(more - 1, everything, run);
            run.remove(run.size() - 1);
        }
    }

    private void compare(List<Call> run, boolean everything) {
        CubeMin tried = new CubeMin();
        Model model = new Model();
        String name = "start(" + n + ") " + run + ": ";
        compare(name, Call.start(n), tried, model);
        for (Call change : run) {
            compare(name, change, tried, model);
        }
        if (everything) {
            compare(name, Showing.questions(model), tried, model);
        }
        compare(name, Call.minimize(), tried, model);
        compare(name, coverQuestions(model), tried, model);
    }

    private static List<Call> coverQuestions(Model model) {
        List<Call> calls = new ArrayList<>();
        for (int k = -1; k <= model.size(2); k++) {
            calls.add(Call.cube(2, k));
            calls.add(Call.prime(2, k));
        }
        for (int list = 0; list < 3; list++) {
            calls.add(Call.size(list));
            calls.add(Call.literals(list));
            calls.add(Call.missing(list));
            calls.add(Call.same(list, 2));
        }
        return calls;
    }

    private static void compare(String name, List<Call> calls, CubeMin tried, Model model) {
        for (Call call : calls) {
            compare(name, call, tried, model);
        }
    }

    private static void compare(String name, Call call, CubeMin tried, Model model) {
        Check.due(name + call, call.answer(tried), call.answer(model));
    }
}

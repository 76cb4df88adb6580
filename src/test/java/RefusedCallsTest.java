import java.util.ArrayList;
import java.util.List;

/** "A call that is refused (false or -1) changes nothing", in every state, as all calls show it. */
public final class RefusedCallsTest {
    private static final String SENTENCE =
        "Terms: \"A call that is refused (false or -1) changes nothing\"";
    /** So many can be refused one after another before the objects' 512 calls run short. */
    private static final int TOGETHER = 25;

    private RefusedCallsTest() {
    }

    public static void main(String[] args) {
        for (int state = 0; state < Runs.all(SENTENCE).size(); state++) {
            List<Call> calls = refusedCalls(Runs.all(SENTENCE).get(state));
            Check.due(SENTENCE + ": there are such calls", calls.size() > 100, true);
            for (int from = 0; from < calls.size(); from += TOGETHER) {
                Run run = Runs.all(SENTENCE).get(state);
                List<Call> before = new ArrayList<>(run.calls());
                for (Call call : calls.subList(from, Math.min(from + TOGETHER, calls.size()))) {
                    run.refused(call);
                }
                run.dueAsAfter(before);
            }
        }
        Check.end();
    }

    private static List<Call> refusedCalls(Run run) {
        Model model = Model.after(run.calls());
        List<Call> calls = refusedChanges(model);
        for (Call call : edgeQuestions(model)) {
            if (call.answer(model) == call.refusal()) {
                calls.add(call);
            }
        }
        return calls;
    }

    private static List<Call> refusedChanges(Model model) {
        List<Call> calls = new ArrayList<>();
        for (int n : Edges.noNumbersOfInputs()) {
            calls.add(Call.start(n));
        }
        for (int cube : Edges.noCubes(model.inputs())) {
            calls.add(Call.on(cube));
            calls.add(Call.dc(cube));
        }
        for (int cube : new int[] {0, 1, Edges.lastCube(model.inputs())}) {
            if (model.size(0) == 24) {
                calls.add(Call.on(cube));
            }
            if (model.size(1) == 24) {
                calls.add(Call.dc(cube));
            }
        }
        return calls;
    }

    /** Most of these are refused. */
    private static List<Call> edgeQuestions(Model model) {
        List<Call> calls = new ArrayList<>();
        for (int list : Edges.noLists()) {
            calls.add(Call.size(list));
            calls.add(Call.literals(list));
            calls.add(Call.missing(list));
            calls.add(Call.tautology(list));
            calls.add(Call.cube(list, 0));
            calls.add(Call.prime(list, 0));
            calls.add(Call.holds(list, 0));
            calls.add(Call.same(list, 0));
            calls.add(Call.same(2, list));
            calls.add(Call.same(list, list));
        }
        for (int list = 0; list < 3; list++) {
            for (int k : Edges.noIndexes(model.size(list))) {
                calls.add(Call.cube(list, k));
                calls.add(Call.prime(list, k));
            }
            for (int k = 0; k < model.size(list); k++) {
                calls.add(Call.prime(list, k));
            }
            for (int point : Edges.noPoints(model.inputs())) {
                calls.add(Call.holds(list, point));
            }
        }
        for (int point : Edges.noPoints(model.inputs())) {
            calls.add(Call.kind(point));
        }
        for (int cube : Edges.noCubes(model.inputs())) {
            calls.add(Call.widen(cube));
        }
        for (int cube = 0; cube <= Edges.lastCube(Math.min(2, model.inputs())); cube++) {
            calls.add(Call.widen(cube));
        }
        return calls;
    }
}

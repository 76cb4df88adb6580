import java.util.ArrayList;
import java.util.List;

/** All that the calls show of a state; what they have to answer is known from the model. */
final class Showing {
    /** Room on each object for the calls that lead it to the state. */
    private static final int LONGEST_WAY = 80;

    /** Calls for one new object that has been led to the state, and their answers. */
    private record Row(List<Call> calls, List<Long> answers) {
    }

    private final List<Row> rows = new ArrayList<>();

    Showing(List<Call> way) {
        List<Call> questions = questions(Model.after(way));
        int most = Run.MOST_CALLS - LONGEST_WAY;
        for (int from = 0; from < questions.size(); from += most) {
            addRow(way, questions.subList(from, Math.min(from + most, questions.size())));
        }
        addRow(way, minimizing());
        addRow(way, changing(Model.after(way)));
    }

    /** The state shows itself after these calls. */
    void dueAfter(String what, List<Call> way) {
        for (Row row : rows) {
            ask(what, objectAfter(way), way.size(), row);
        }
    }

    /** The state shows itself after these calls and one more, which has to answer as wanted. */
    void dueAfter(String what, List<Call> way, Call more, long want) {
        for (Row row : rows) {
            CubeMin x = objectAfter(way);
            Check.due(what + ": " + more, more.answer(x), want);
            ask(what + ": after " + more, x, way.size() + 1, row);
        }
    }

    private static void ask(String what, CubeMin x, int callsBefore, Row row) {
        int calls = row.calls().size();
        Check.atMost(what + ": calls on one object", callsBefore + calls, Run.MOST_CALLS);
        for (int k = 0; k < calls; k++) {
            Call call = row.calls().get(k);
            Check.due(what + ": " + call, call.answer(x), row.answers().get(k));
        }
    }

    private static CubeMin objectAfter(List<Call> way) {
        CubeMin x = new CubeMin();
        for (Call call : way) {
            call.answer(x);
        }
        return x;
    }

    private void addRow(List<Call> way, List<Call> calls) {
        Model model = Model.after(way);
        List<Long> answers = new ArrayList<>();
        for (Call call : calls) {
            answers.add(call.answer(model));
        }
        rows.add(new Row(calls, answers));
    }

    /** Every question for all there is, and for the next thing on both sides, which is not. */
    static List<Call> questions(Model model) {
        List<Call> calls = new ArrayList<>();
        calls.add(Call.inputs());
        for (int list = -1; list <= 3; list++) {
            calls.add(Call.size(list));
            calls.add(Call.literals(list));
            calls.add(Call.missing(list));
            calls.add(Call.tautology(list));
            for (int other = -1; other <= 3; other++) {
                calls.add(Call.same(list, other));
            }
            for (int k = -1; k <= model.size(list); k++) {
                calls.add(Call.cube(list, k));
                calls.add(Call.prime(list, k));
            }
        }
        for (int point = -1; point <= Edges.lastPoint(model.inputs()) + 1; point++) {
            calls.add(Call.kind(point));
            for (int list = 0; list < 3; list++) {
                calls.add(Call.holds(list, point));
            }
        }
        for (int cube : cubesToWiden(model)) {
            calls.add(Call.widen(cube));
        }
        return calls;
    }

    /** All cubes of up to 3 inputs; of more inputs some, for there are up to 65536. */
    private static List<Integer> cubesToWiden(Model model) {
        List<Integer> cubes = new ArrayList<>();
        int last = Edges.lastCube(model.inputs());
        if (model.inputs() <= 3) {
            for (int cube = -1; cube <= last + 1; cube++) {
                cubes.add(cube);
            }
            return cubes;
        }
        cubes.addAll(List.of(-1, 0, last, last + 1));
        for (int list = 0; list < 3; list++) {
            for (int k = 0; k < model.size(list); k += 3) {
                cubes.add(model.cube(list, k));
            }
        }
        for (int point = 0; point <= Edges.lastPoint(model.inputs()); point += 9) {
            cubes.add(Edges.pointCube(point, model.inputs()));
        }
        return cubes;
    }

    private static List<Call> minimizing() {
        List<Call> calls = new ArrayList<>();
        calls.add(Call.minimize());
        addList(calls, 2);
        calls.add(Call.same(0, 2));
        return calls;
    }

    private static List<Call> changing(Model model) {
        List<Call> calls = new ArrayList<>();
        int last = Edges.lastCube(model.inputs());
        for (Call change : new Call[] {Call.on(last - 1), Call.dc(1), Call.minimize()}) {
            calls.add(change);
            for (int list = 0; list < 3; list++) {
                addList(calls, list);
            }
        }
        calls.add(Call.start(2));
        calls.add(Call.inputs());
        for (int list = 0; list < 3; list++) {
            calls.add(Call.size(list));
            calls.add(Call.missing(list));
        }
        return calls;
    }

    private static void addList(List<Call> calls, int list) {
        calls.add(Call.size(list));
        for (int k = 0; k <= 24; k++) {
            calls.add(Call.cube(list, k));
        }
    }
}

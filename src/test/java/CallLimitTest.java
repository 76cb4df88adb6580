import java.util.ArrayList;
import java.util.List;

/** "An object is used for at most 512 calls after it has been made": the last of them counts. */
public final class CallLimitTest {
    private static final String SENTENCE =
        "What it is: \"used for at most 512 calls after it has been made\"";
    private static final int MOST_CALLS = Run.MOST_CALLS;

    private CallLimitTest() {
    }

    public static void main(String[] args) {
        List<Call> way = Runs.filled(SENTENCE).calls();
        everyQuestionIsTheLast(way, List.of(Call.inputs(), Call.holds(2, 1), Call.widen(22)));
        everyQuestionIsTheLast(way, List.of(Call.minimize()));
        everyQuestionIsTheLast(way, List.of(Call.start(0), Call.on(64), Call.dc(-1), Call.size(3)));
        everyQuestionIsTheLast(List.of(), List.of(Call.start(8), Call.start(4)));
        everyChangeIsTheLast(way);
        manyMinimizations();
        manyStarts();
        noCallThrowsAfterwards();
        Check.end();
    }

    /** The filling changes nothing, so that the answers are those right after the way. */
    private static void everyQuestionIsTheLast(List<Call> way, List<Call> filling) {
        Model model = Model.after(way);
        for (Call question : Showing.questions(model)) {
            CubeMin x = new CubeMin();
            fill(x, way, filling, MOST_CALLS - 1);
            dueLast(question, x, question.answer(model));
        }
    }

    private static void everyChangeIsTheLast(List<Call> way) {
        List<Call> filling = List.of(Call.missing(0), Call.start(9), Call.minimize());
        Call[] changes = {Call.start(1), Call.start(8), Call.start(9), Call.start(0), Call.on(0),
            Call.on(63), Call.on(64), Call.on(-1), Call.dc(0), Call.dc(63), Call.dc(64),
            Call.dc(-1), Call.minimize()};
        for (Call change : changes) {
            CubeMin x = new CubeMin();
            fill(x, way, filling, MOST_CALLS - 1);
            dueLast(change, x, change.answer(Model.after(way)));
            // As the 511th call it shows in the 512th.
            Model changed = Model.after(way);
            change.answer(changed);
            for (Call question : Showing.questions(changed)) {
                CubeMin y = new CubeMin();
                fill(y, way, filling, MOST_CALLS - 2);
                change.answer(y);
                dueLast(question, y, question.answer(changed));
            }
        }
    }

    private static void manyMinimizations() {
        for (Run run : Runs.all(SENTENCE)) {
            List<Call> way = run.calls();
            Call[] last = {Call.minimize(), Call.size(2), Call.cube(2, 0), Call.literals(2),
                Call.missing(2), Call.same(0, 2), Call.prime(2, 0)};
            Model model = Model.after(way);
            model.minimize();
            for (Call question : last) {
                CubeMin x = new CubeMin();
                fill(x, way, List.of(Call.minimize()), MOST_CALLS - 1);
                dueLast(question, x, question.answer(model));
            }
        }
    }

    private static void manyStarts() {
        for (int n = 1; n <= 8; n++) {
            CubeMin x = new CubeMin();
            for (int call = 0; call < MOST_CALLS - 3; call++) {
                x.start(call % 8 + 1);
            }
            Check.due(SENTENCE + ": start", x.start(n), true);
            Check.due(SENTENCE + ": on", x.on(Edges.lastCube(n)), true);
            dueLast(Call.missing(0), x, 0);
        }
    }

    /** Their answers are free, but LANGUAGE.md lets no call throw in any state. */
    private static void noCallThrowsAfterwards() {
        for (Run run : Runs.all(SENTENCE)) {
            Model model = Model.after(run.calls());
            CubeMin x = new CubeMin();
            fill(x, run.calls(), List.of(Call.minimize(), Call.on(1), Call.dc(1)), MOST_CALLS);
            List<Call> calls = new ArrayList<>(Showing.questions(model));
            for (int n : Edges.noNumbersOfInputs()) {
                calls.add(Call.start(n));
            }
            calls.addAll(List.of(Call.minimize(), Call.on(0), Call.dc(0), Call.start(8),
                Call.minimize()));
            int ended = 0;
            for (Call call : calls) {
                call.answer(x);
                ended++;
            }
            Check.due(SENTENCE + ": later calls that ended", ended, calls.size());
        }
    }

    private static void dueLast(Call call, CubeMin x, long want) {
        Check.due(SENTENCE + ": call " + MOST_CALLS + ", " + call, call.answer(x), want);
    }

    /** Makes the calls of the way, then those of the filling over and over up to the number. */
    private static void fill(CubeMin x, List<Call> way, List<Call> filling, int number) {
        for (Call call : way) {
            call.answer(x);
        }
        // Whole rounds of the filling end with its last call, whatever the number is.
        for (int left = number - way.size(); left > 0; left--) {
            filling.get((filling.size() - left % filling.size()) % filling.size()).answer(x);
        }
    }
}

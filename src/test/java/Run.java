import java.util.ArrayList;
import java.util.List;

/**
 * A run of calls on one new object under a sentence of the document. The calls are kept, so that
 * the state they lead to can be reached again on other objects: no object is asked more than 512
 * times, and to show the whole of a state can take more calls than that.
 */
final class Run {
    static final int MOST_CALLS = 512;

    private final String sentence;
    private final List<Call> calls = new ArrayList<>();
    private final CubeMin x = new CubeMin();
    /** All that the present state shows, or null if it has not been put together yet. */
    private Showing showing;

    Run(String sentence) {
        this.sentence = sentence;
    }

    static Run with(String sentence, int n, int[] on, int[] dc) {
        Run run = new Run(sentence);
        run.due(Call.start(n), true);
        for (int cube : on) {
            run.due(Call.on(cube), true);
        }
        for (int cube : dc) {
            run.due(Call.dc(cube), true);
        }
        return run;
    }

    List<Call> calls() {
        return calls;
    }

    void due(Call call, long want) {
        calls.add(call);
        Check.due(sentence + ": " + call, call.answer(x), want);
        Check.atMost(sentence + ": calls on one object", calls.size(), MOST_CALLS);
        showing = null;
    }

    void due(Call call, boolean want) {
        due(call, want ? 1 : 0);
    }

    void refused(Call call) {
        due(call, call.refusal());
    }

    /** The list has just these cubes, in this order. */
    void dueList(int list, int... cubes) {
        due(Call.size(list), cubes.length);
        for (int k = 0; k < cubes.length; k++) {
            due(Call.cube(list, k), cubes[k]);
        }
        due(Call.cube(list, cubes.length), -1);
    }

    /** The call is refused, and behind it everything is as it was before. */
    void refusedWithoutChange(Call call) {
        dueWithoutChange(call, call.refusal());
    }

    void dueWithoutChange(Call call, long want) {
        if (showing == null) {
            showing = new Showing(calls);
        }
        showing.dueAfter(sentence, calls, call, want);
    }

    /** Everything is now as after these calls on a new object. */
    void dueAsAfter(List<Call> others) {
        new Showing(others).dueAfter(sentence, calls);
    }
}

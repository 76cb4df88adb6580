import java.util.List;

/** Runs that lead to states at the edges of what an object can hold. */
final class Runs {
    private Runs() {
    }

    static List<Run> all(String sentence) {
        return List.of(new Run(sentence), small(sentence), filled(sentence), oneFull(sentence, 0),
            oneFull(sentence, 1), full(sentence));
    }

    /** How many inputs the object has after the run. */
    static int inputsOf(Run run) {
        int n = 4;
        for (Call call : run.calls()) {
            if (call.name() == Call.Name.START) {
                n = call.first();
            }
        }
        return n;
    }

    /** One input and empty lists. */
    private static Run small(String sentence) {
        Run run = new Run(sentence);
        run.due(Call.start(1), true);
        return run;
    }

    /** Three inputs, five cubes in ON, one of them void, one in DC, and one in the COVER. */
    static Run filled(String sentence) {
        Run run = Run.with(sentence, 3, new int[] {26, 38, 0, 42, 22}, new int[] {21});
        run.due(Call.minimize(), 1);
        return run;
    }

    /** Three inputs; ON or DC has 24 cubes, the other list two, and the COVER some. */
    static Run oneFull(String sentence, int list) {
        int[] many = new int[24];
        for (int k = 0; k < 24; k++) {
            many[k] = k % 3 == 0 ? 22 : k;
        }
        int[] two = {41, 38};
        Run run = list == 0 ? Run.with(sentence, 3, many, two) : Run.with(sentence, 3, two, many);
        run.due(Call.minimize(), list == 0 ? 1 : 2);
        return run;
    }

    /**
     * Eight inputs and 24 cubes of one point in each list. No two of the points are neighbours, so
     * that the COVER has the cubes of ON.
     */
    static Run full(String sentence) {
        int[][] cubes = new int[2][24];
        for (int list = 0; list < 2; list++) {
            for (int k = 0; k < 24; k++) {
                cubes[list][k] = fullCube(list, k);
            }
        }
        Run run = Run.with(sentence, 8, cubes[0], cubes[1]);
        run.due(Call.minimize(), 24);
        return run;
    }

    /** Points with an odd number of bits in ON; in DC others with an odd number. */
    static int fullCube(int list, int k) {
        int point = 2 * (24 * list + k);
        return Edges.pointCube(point + (Integer.bitCount(point) + 1) % 2, 8);
    }
}

import java.util.ArrayList;
import java.util.List;

/** Each sentence of the promises 1 to 16 that names a boundary case, by itself. */
public final class PromiseBoundsTest {
    private static final int[] NONE = Edges.NONE;

    private PromiseBoundsTest() {
    }

    public static void main(String[] args) {
        newObject();
        start();
        startOutOfRange();
        inputs();
        adding(0, "Promise 4: \"false if it is no cube or ON has 24\"");
        adding(1, "Promise 5: \"false if it is no cube or DC has 24\"");
        emptiesTheCover(0, "Promise 4: \"Adds a cube to ON and empties the COVER\"");
        emptiesTheCover(1, "Promise 5: \"Adds a cube to DC and empties the COVER\"");
        size();
        cube();
        literals();
        kind();
        holds();
        missing();
        tautology();
        same();
        sameOfNoList();
        primeIsThere();
        primeIsNotVoid();
        primeTouchesWhenAnyIsFree();
        widenRefused();
        widenChangesNothing();
        minimize();
        Check.end();
    }

    private static void newObject() {
        String sentence = "Promise 1: \"As after start(4)\"";
        new Run(sentence).dueAsAfter(List.of(Call.start(4)));
        Run run = Runs.full(sentence);
        run.due(Call.start(4), true);
        run.dueAsAfter(List.of());
        Run fresh = new Run(sentence);
        fresh.due(Call.inputs(), 4);
        fresh.refused(Call.on(256));
        fresh.refused(Call.kind(16));
        fresh.due(Call.kind(15), 0);
        fresh.due(Call.on(255), true);
        fresh.due(Call.missing(0), 0);
        // Objects share nothing.
        new Run(sentence).dueList(0);
    }

    private static void start() {
        String sentence = "Promise 2: \"n inputs, all lists empty\"";
        for (int n = 1; n <= 8; n++) {
            Run afterNone = new Run(sentence);
            afterNone.due(Call.start(n), true);
            afterNone.due(Call.inputs(), n);
            for (int list = 0; list < 3; list++) {
                afterNone.dueList(list);
                afterNone.due(Call.missing(list), 1 << n);
            }
            for (Run run : Runs.all(sentence)) {
                run.due(Call.start(n), true);
                run.dueAsAfter(List.of(Call.start(n)));
            }
        }
    }

    private static void startOutOfRange() {
        String sentence = "Promise 2: \"false if n is not 1 .. 8\"";
        for (Run run : Runs.all(sentence)) {
            for (int n : Edges.noNumbersOfInputs()) {
                run.refusedWithoutChange(Call.start(n));
            }
        }
        for (int n = 1; n <= 8; n++) {
            new Run(sentence).due(Call.start(n), true);
        }
    }

    private static void inputs() {
        String sentence = "Promise 3: \"The number of inputs\"";
        Run run = new Run(sentence);
        run.due(Call.inputs(), 4);
        for (int n : new int[] {1, 8, 2, 7, 3, 6, 5, 4, 8, 1}) {
            run.due(Call.start(n), true);
            run.due(Call.on(0), true);
            run.due(Call.minimize(), 0);
            run.due(Call.inputs(), n);
            run.refused(Call.start(9));
            run.refused(Call.start(0));
            run.due(Call.inputs(), n);
        }
    }

    private static void adding(int list, String sentence) {
        for (int n = 1; n <= 8; n++) {
            Run run = new Run(sentence);
            run.due(Call.start(n), true);
            for (int cube : Edges.noCubes(n)) {
                run.refused(Call.adding(list, cube));
            }
            run.due(Call.adding(list, 0), true);
            run.due(Call.adding(list, Edges.lastCube(n)), true);
            run.dueList(list, 0, Edges.lastCube(n));
            for (int k = 2; k < 24; k++) {
                run.due(Call.adding(list, 1), true);
            }
            run.refused(Call.adding(list, 0));
            run.refused(Call.adding(list, Edges.lastCube(n)));
            for (int cube : Edges.noCubes(n)) {
                run.refused(Call.adding(list, cube));
            }
            run.due(Call.size(list), 24);
            run.due(Call.size(1 - list), 0);
        }
        addingWithoutChange(list, sentence);
    }

    private static void addingWithoutChange(int list, String sentence) {
        for (Run run : Runs.all(sentence)) {
            for (int cube : Edges.noCubes(Runs.inputsOf(run))) {
                run.refusedWithoutChange(Call.adding(list, cube));
            }
        }
        Run full = Runs.full(sentence);
        for (int cube : new int[] {0, 1, 21845, 43690, 65534, 65535}) {
            full.refusedWithoutChange(Call.adding(list, cube));
        }
        Run fullHere = Runs.oneFull(sentence, list);
        for (int cube : new int[] {0, 1, 21, 42, 62, 63}) {
            fullHere.refusedWithoutChange(Call.adding(list, cube));
        }
    }

    private static void emptiesTheCover(int list, String sentence) {
        int[] some = {0, 21, 42, 62, 63, 1, 26};
        for (int cube : some) {
            Run run = Runs.filled(sentence);
            run.dueList(2, 62);
            for (int wrong : Edges.noCubes(3)) {
                run.refused(Call.adding(list, wrong));
            }
            run.dueList(2, 62);
            run.due(Call.adding(list, cube), true);
            run.dueList(2);
            run.due(Call.missing(2), 8);
            run.due(Call.prime(2, 0), false);
        }
        // The 24th empties it, the 25th does not.
        Run run = Runs.filled(sentence);
        for (int k = list == 0 ? 5 : 1; k < 23; k++) {
            run.due(Call.adding(list, 0), true);
        }
        run.due(Call.minimize(), 1);
        run.dueList(2, 62);
        run.due(Call.adding(list, 0), true);
        run.dueList(2);
        run.due(Call.minimize(), 1);
        run.refused(Call.adding(list, 0));
        run.refused(Call.adding(list, 63));
        run.dueList(2, 62);
    }

    private static void size() {
        String sentence = "Promise 6: \"-1 if there is no such list\"";
        Run empty = new Run(sentence);
        Run full = Runs.full(sentence);
        for (int list = 0; list < 3; list++) {
            empty.due(Call.size(list), 0);
            full.due(Call.size(list), 24);
        }
        for (int list : Edges.noLists()) {
            empty.refused(Call.size(list));
            full.refused(Call.size(list));
            for (Run run : Runs.all(sentence)) {
                run.refusedWithoutChange(Call.size(list));
            }
        }
    }

    private static void cube() {
        String sentence = "Promise 7: \"(0 the first); -1 if there is no such list or cube\"";
        Run empty = new Run(sentence);
        Run filled = Runs.filled(sentence);
        Run full = Runs.full(sentence);
        int[] sizes = {5, 1, 1};
        for (int list = 0; list < 3; list++) {
            for (int k : Edges.noIndexes(0)) {
                empty.refused(Call.cube(list, k));
            }
            for (int k : Edges.noIndexes(sizes[list])) {
                filled.refused(Call.cube(list, k));
            }
            for (int k : Edges.noIndexes(24)) {
                full.refused(Call.cube(list, k));
            }
        }
        filled.dueList(0, 26, 38, 0, 42, 22);
        filled.dueList(1, 21);
        filled.dueList(2, 62);
        full.due(Call.cube(0, 0), Runs.fullCube(0, 0));
        full.due(Call.cube(0, 23), Runs.fullCube(0, 23));
        full.due(Call.cube(1, 0), Runs.fullCube(1, 0));
        full.due(Call.cube(1, 23), Runs.fullCube(1, 23));
        for (int list : Edges.noLists()) {
            for (int k : new int[] {Edges.MIN, -1, 0, 1, 23, 24, Edges.MAX}) {
                full.refused(Call.cube(list, k));
            }
        }
        // A void cube is a cube: 0, not -1.
        filled.due(Call.cube(0, 2), 0);
        for (Run run : Runs.all(sentence)) {
            for (int k : Edges.noIndexes(24)) {
                run.refusedWithoutChange(Call.cube(0, k));
            }
            run.refusedWithoutChange(Call.cube(-1, 0));
            run.refusedWithoutChange(Call.cube(3, 0));
        }
    }

    private static void literals() {
        String sentence = "Promise 8: \"-1 if there is no such list\"";
        Run empty = new Run(sentence);
        Run full = Runs.full(sentence);
        for (int list = 0; list < 3; list++) {
            empty.due(Call.literals(list), 0);
            full.due(Call.literals(list), 24 * 8);
        }
        for (int list : Edges.noLists()) {
            empty.refused(Call.literals(list));
            full.refused(Call.literals(list));
            for (Run run : Runs.all(sentence)) {
                run.refusedWithoutChange(Call.literals(list));
            }
        }
    }

    private static void kind() {
        String sentence = "Promise 9: \"-1 if it is no point\"";
        for (int n = 1; n <= 8; n++) {
            int last = Edges.lastPoint(n);
            Run run = new Run(sentence);
            run.due(Call.start(n), true);
            for (int want = 0; want <= 2; want++) {
                run.due(Call.kind(0), want);
                run.due(Call.kind(last), want);
                for (int point : Edges.noPoints(n)) {
                    run.refused(Call.kind(point));
                }
                run.due(Call.adding(want, Edges.lastCube(n)), true);
            }
        }
        for (Run run : Runs.all(sentence)) {
            for (int point : Edges.noPoints(Runs.inputsOf(run))) {
                run.refusedWithoutChange(Call.kind(point));
            }
        }
    }

    private static void holds() {
        String sentence = "Promise 10: \"false if there is no such point or list\"";
        for (int n = 1; n <= 8; n++) {
            int[] all = {Edges.lastCube(n)};
            int last = Edges.lastPoint(n);
            Run run = Run.with(sentence, n, all, NONE);
            run.due(Call.minimize(), 1);
            for (int point : new int[] {0, last}) {
                run.due(Call.holds(0, point), true);
                run.due(Call.holds(1, point), false);
                run.due(Call.holds(2, point), true);
                for (int list : Edges.noLists()) {
                    run.refused(Call.holds(list, point));
                }
            }
            for (int point : Edges.noPoints(n)) {
                for (int list : new int[] {Edges.MIN, -1, 0, 1, 2, 3, Edges.MAX}) {
                    run.refused(Call.holds(list, point));
                }
            }
        }
        for (Run run : Runs.all(sentence)) {
            for (int point : Edges.noPoints(Runs.inputsOf(run))) {
                run.refusedWithoutChange(Call.holds(0, point));
            }
            for (int list : Edges.noLists()) {
                run.refusedWithoutChange(Call.holds(list, 1));
            }
        }
    }

    private static void missing() {
        String sentence = "Promise 11: \"-1 if there is no such list\"";
        for (int n = 1; n <= 8; n++) {
            Run run = allButOnePoint(sentence, n, 0);
            run.due(Call.missing(0), 1);
            run.due(Call.missing(1), 1 << n);
            run.due(Call.missing(2), 1 << n);
            run.due(Call.minimize(), n);
            run.due(Call.missing(2), 1);
            run.due(Call.on(Edges.pointCube(0, n)), true);
            run.due(Call.missing(0), 0);
            run.due(Call.missing(2), 1 << n);
            run.due(Call.minimize(), 1);
            run.due(Call.missing(2), 0);
            for (int list : Edges.noLists()) {
                run.refused(Call.missing(list));
            }
        }
        for (Run run : Runs.all(sentence)) {
            for (int list : Edges.noLists()) {
                run.refusedWithoutChange(Call.missing(list));
            }
        }
    }

    private static void tautology() {
        String sentence = "Promise 12: \"Whether every point is in a list; false if there is no such"
            + " list\"";
        for (int n = 1; n <= 8; n++) {
            int last = Edges.lastPoint(n);
            for (int point : new int[] {0, last, last / 3}) {
                Run run = allButOnePoint(sentence, n, point);
                run.due(Call.tautology(0), false);
                run.due(Call.tautology(1), false);
                run.due(Call.minimize(), n);
                run.due(Call.tautology(2), false);
                run.due(Call.on(Edges.pointCube(point, n)), true);
                run.due(Call.tautology(0), true);
                run.due(Call.tautology(2), false);
                run.due(Call.minimize(), 1);
                run.due(Call.tautology(2), true);
                for (int list : Edges.noLists()) {
                    run.refused(Call.tautology(list));
                }
                run.due(Call.dc(Edges.lastCube(n)), true);
                run.due(Call.tautology(1), true);
            }
        }
        for (Run run : Runs.all(sentence)) {
            for (int list : Edges.noLists()) {
                run.refusedWithoutChange(Call.tautology(list));
            }
        }
    }

    private static void same() {
        String sentence = "Promise 13: \"each point that is not indifferent is in one list just if it"
            + " is in the other\"";
        for (int n = 1; n <= 8; n++) {
            int lastCube = Edges.lastCube(n);
            Run none = new Run(sentence);
            none.due(Call.start(n), true);
            dueSame(none, true, true, true);
            Run all = Run.with(sentence, n, NONE, new int[] {lastCube});
            dueSame(all, true, true, true);
            for (int point : new int[] {0, Edges.lastPoint(n)}) {
                // The lists are apart in one wanted point, which then becomes indifferent.
                Run run = Run.with(sentence, n, new int[] {lastCube}, NONE);
                for (int i = 0; i < n; i++) {
                    int half = Edges.half(n, i, 1 - Edges.bit(point, i));
                    run.due(Call.dc(half), true);
                }
                dueSame(run, false, false, true);
                run.due(Call.minimize(), 1);
                dueSame(run, false, true, false);
                run.due(Call.dc(Edges.pointCube(point, n)), true);
                dueSame(run, true, true, true);
            }
        }
    }

    /** The answers for ON and DC, ON and the COVER, DC and the COVER, both ways round. */
    private static void dueSame(Run run, boolean onDc, boolean onCover, boolean dcCover) {
        run.due(Call.same(0, 1), onDc);
        run.due(Call.same(1, 0), onDc);
        run.due(Call.same(0, 2), onCover);
        run.due(Call.same(2, 0), onCover);
        run.due(Call.same(1, 2), dcCover);
        run.due(Call.same(2, 1), dcCover);
        for (int list = 0; list < 3; list++) {
            run.due(Call.same(list, list), true);
        }
    }

    private static void sameOfNoList() {
        String sentence = "Promise 13: \"false if one of them is no list\"";
        for (int wrong : Edges.noLists()) {
            Run run = new Run(sentence);
            for (int list = 0; list < 3; list++) {
                run.due(Call.same(list, list), true);
                run.refused(Call.same(list, wrong));
                run.refused(Call.same(wrong, list));
            }
            for (int other : Edges.noLists()) {
                run.refused(Call.same(wrong, other));
            }
        }
        for (Run run : Runs.all(sentence)) {
            for (int wrong : Edges.noLists()) {
                run.refusedWithoutChange(Call.same(0, wrong));
                run.refusedWithoutChange(Call.same(wrong, 2));
                run.refusedWithoutChange(Call.same(wrong, wrong));
            }
        }
    }

    private static void primeIsThere() {
        String sentence = "Promise 14: \"is there\"";
        // All cubes are prime that are there.
        Run run = new Run(sentence);
        for (int list = 0; list < 3; list++) {
            for (int k : Edges.noIndexes(0)) {
                run.refused(Call.prime(list, k));
            }
        }
        run.due(Call.start(2), true);
        run.due(Call.on(15), true);
        run.due(Call.on(15), true);
        run.due(Call.minimize(), 1);
        run.due(Call.prime(0, 0), true);
        run.due(Call.prime(0, 1), true);
        run.due(Call.prime(2, 0), true);
        for (int k : Edges.noIndexes(2)) {
            run.refused(Call.prime(0, k));
        }
        for (int k : Edges.noIndexes(0)) {
            run.refused(Call.prime(1, k));
        }
        for (int k : Edges.noIndexes(1)) {
            run.refused(Call.prime(2, k));
        }
        for (int list : Edges.noLists()) {
            run.refused(Call.prime(list, 0));
        }
        Run full = Runs.full(sentence);
        full.due(Call.prime(0, 0), true);
        full.due(Call.prime(0, 23), true);
        full.due(Call.prime(2, 0), true);
        full.due(Call.prime(2, 23), true);
        for (int k : Edges.noIndexes(24)) {
            full.refused(Call.prime(0, k));
            full.refused(Call.prime(2, k));
            for (Run other : Runs.all(sentence)) {
                other.refusedWithoutChange(Call.prime(0, k));
            }
        }
        for (Run other : Runs.all(sentence)) {
            for (int list : Edges.noLists()) {
                other.refusedWithoutChange(Call.prime(list, 0));
            }
        }
    }

    /** A void cube with one void input alone: made free, that input makes the cube touch. */
    private static void primeIsNotVoid() {
        String sentence = "Promise 14: \"is not void\"";
        for (int n = 1; n <= 8; n++) {
            for (int i = 0; i < n; i++) {
                int voidCube = Edges.lastCube(n) & ~(3 << 2 * i);
                Run run = Run.with(sentence, n, new int[] {voidCube}, new int[] {voidCube});
                run.refused(Call.prime(0, 0));
                run.refused(Call.prime(1, 0));
                run.due(Call.on(Edges.half(n, i, 0)), true);
                run.refused(Call.prime(0, 0));
                run.due(Call.prime(0, 1), true);
                if (n <= 3) {
                    run.refusedWithoutChange(Call.prime(0, 0));
                }
            }
        }
    }

    private static void primeTouchesWhenAnyIsFree() {
        String sentence = "Promise 14: \"touches as soon as any one of its literals is made free\"";
        for (int n = 1; n <= 8; n++) {
            int point = Edges.pointCube(Edges.lastPoint(n) / 3, n);
            Run alone = Run.with(sentence, n, new int[] {point}, NONE);
            alone.due(Call.prime(0, 0), true);
            Run noLiteral = Run.with(sentence, n, NONE, new int[] {Edges.lastCube(n)});
            noLiteral.due(Call.prime(1, 0), true);
            for (int i = 0; i < n; i++) {
                // Just the literal i can be made free without a touch.
                int neighbour = Edges.pointCube(Edges.lastPoint(n) / 3 ^ 1 << i, n);
                Run wanted = Run.with(sentence, n, new int[] {point, neighbour}, NONE);
                wanted.due(Call.prime(0, 0), false);
                wanted.due(Call.prime(0, 1), false);
                Run indifferent = Run.with(sentence, n, new int[] {point}, new int[] {neighbour});
                indifferent.due(Call.prime(0, 0), false);
                indifferent.due(Call.prime(1, 0), false);
                indifferent.due(Call.on(point | neighbour), true);
                indifferent.due(Call.prime(0, 1), true);
            }
        }
    }

    private static void widenRefused() {
        String sentence = "Promise 15: \"-1 if it is no cube, is void or touches\"";
        for (Run run : Runs.all(sentence)) {
            int n = Runs.inputsOf(run);
            for (int cube : Edges.noCubes(n)) {
                run.refusedWithoutChange(Call.widen(cube));
            }
            run.refusedWithoutChange(Call.widen(0));
            run.refusedWithoutChange(Call.widen(Edges.lastCube(n) & ~3));
            run.refusedWithoutChange(Call.widen(Edges.lastCube(n) >> 2));
        }
        for (int n = 1; n <= 8; n++) {
            int point = Edges.lastPoint(n) / 3;
            Run run = allButOnePoint(sentence, n, point);
            run.refused(Call.widen(Edges.pointCube(point, n)));
            run.refused(Call.widen(Edges.lastCube(n)));
            for (int i = 0; i < n; i++) {
                run.refused(Call.widen(Edges.half(n, i, Edges.bit(point, i))));
                run.refused(Call.widen(Edges.lastCube(n) & ~(3 << 2 * i)));
            }
            for (int cube : Edges.noCubes(n)) {
                run.refused(Call.widen(cube));
            }
            run.refusedWithoutChange(Call.widen(Edges.pointCube(point, n)));
            run.refusedWithoutChange(Call.widen(Edges.lastCube(n)));
        }
    }

    private static void widenChangesNothing() {
        String sentence = "Promise 15: \"Changes nothing\"";
        Run run = Runs.filled(sentence);
        run.dueWithoutChange(Call.widen(21), 23);
        run.dueWithoutChange(Call.widen(22), 23);
        run.dueWithoutChange(Call.widen(26), 62);
        run.dueWithoutChange(Call.widen(62), 62);
        Run full = Runs.full(sentence);
        full.dueWithoutChange(Call.widen(Runs.fullCube(0, 0)), Runs.fullCube(0, 0));
        full.dueWithoutChange(Call.widen(Runs.fullCube(0, 23)), Runs.fullCube(0, 23));
    }

    private static void minimize() {
        String sentence = "Promise 16: \"the number of cubes in the COVER\"";
        for (int n = 1; n <= 8; n++) {
            Run run = new Run(sentence);
            run.due(Call.start(n), true);
            run.due(Call.minimize(), 0);
            run.dueList(2);
            run.due(Call.on(Edges.lastCube(n)), true);
            run.due(Call.minimize(), 1);
            run.dueList(2, Edges.lastCube(n));
            run.due(Call.dc(Edges.lastCube(n)), true);
            run.due(Call.minimize(), 0);
            run.dueList(2);
        }
        Run full = Runs.full(sentence);
        full.due(Call.minimize(), 24);
        full.due(Call.size(2), 24);
        // ON and DC stay, and a second time nothing is left to change.
        List<Call> before = new ArrayList<>(full.calls());
        full.due(Call.minimize(), 24);
        full.dueAsAfter(before);
    }

    private static Run allButOnePoint(String sentence, int n, int point) {
        int[] halves = new int[n];
        for (int i = 0; i < n; i++) {
            halves[i] = Edges.half(n, i, 1 - Edges.bit(point, i));
        }
        return Run.with(sentence, n, halves, NONE);
    }
}

/** Each sentence of the document's "Terms" that names a boundary case, by itself. */
public final class TermsBoundsTest {
    private static final int[] NONE = Edges.NONE;

    private TermsBoundsTest() {
    }

    public static void main(String[] args) {
        numberOfInputs();
        firstAndLastInput();
        firstAndLastPoint();
        firstAndLastCube();
        cubesOfOnePoint();
        voidCubes();
        literalsOfVoidInputs();
        atMost24Cubes(0);
        atMost24Cubes(1);
        orderWithEqualAndVoidCubes(0);
        orderWithEqualAndVoidCubes(1);
        pointsInNoCubeAndInOne();
        kinds(true);
        kinds(false);
        oneForbiddenPoint();
        Check.end();
    }

    private static void numberOfInputs() {
        String sentence = "Terms: \"n from 1 to 8\"";
        for (int n = 1; n <= 8; n++) {
            Run run = new Run(sentence);
            run.due(Call.start(n), true);
            run.due(Call.inputs(), n);
        }
        for (int n : Edges.noNumbersOfInputs()) {
            Run run = new Run(sentence);
            run.due(Call.start(5), true);
            run.refused(Call.start(n));
            run.due(Call.inputs(), 5);
        }
    }

    private static void firstAndLastInput() {
        String sentence = "Terms: \"INPUTS, 0 .. n - 1\", \"bit i of a point is the value of input i\"";
        for (int n = 1; n <= 8; n++) {
            for (int i = 0; i < n; i++) {
                for (int value = 0; value <= 1; value++) {
                    int cube = Edges.half(n, i, value);
                    Run run = Run.with(sentence, n, new int[] {cube}, NONE);
                    run.due(Call.literals(0), 1);
                    run.due(Call.missing(0), 1 << n - 1);
                    for (int point = 0; point <= Edges.lastPoint(n); point++) {
                        run.due(Call.holds(0, point), Edges.bit(point, i) == value);
                    }
                    run.due(Call.prime(0, 0), true);
                    run.due(Call.widen(cube), cube);
                }
            }
        }
    }

    private static void firstAndLastPoint() {
        String sentence = "Terms: \"POINTS are 0 .. 2^n - 1\"";
        for (int n = 1; n <= 8; n++) {
            int last = Edges.lastPoint(n);
            int[] all = {Edges.lastCube(n)};
            Run wanted = Run.with(sentence, n, all, NONE);
            wanted.due(Call.minimize(), 1);
            Run indifferent = Run.with(sentence, n, NONE, all);
            for (int point : new int[] {0, 1, last - 1, last}) {
                wanted.due(Call.kind(point), 1);
                wanted.due(Call.holds(0, point), true);
                wanted.due(Call.holds(1, point), false);
                wanted.due(Call.holds(2, point), true);
                indifferent.due(Call.kind(point), 2);
                indifferent.due(Call.holds(1, point), true);
            }
            for (int point : Edges.noPoints(n)) {
                wanted.refused(Call.kind(point));
                indifferent.refused(Call.kind(point));
                for (int list = 0; list < 3; list++) {
                    wanted.refused(Call.holds(list, point));
                    indifferent.refused(Call.holds(list, point));
                }
            }
            indifferent.due(Call.missing(0), last + 1);
            indifferent.due(Call.missing(1), 0);
        }
    }

    private static void firstAndLastCube() {
        String sentence = "Terms: \"CUBES are 0 .. 4^n - 1\"";
        for (int n = 1; n <= 8; n++) {
            int last = Edges.lastCube(n);
            Run run = new Run(sentence);
            run.due(Call.start(n), true);
            for (int cube : Edges.noCubes(n)) {
                run.refused(Call.on(cube));
                run.refused(Call.dc(cube));
                run.refused(Call.widen(cube));
            }
            run.dueList(0);
            run.dueList(1);
            for (int cube : new int[] {0, 1, last - 1, last}) {
                run.due(Call.on(cube), true);
                run.due(Call.dc(cube), true);
            }
            run.dueList(0, 0, 1, last - 1, last);
            run.dueList(1, 0, 1, last - 1, last);
            run.due(Call.widen(Edges.pointCube(0, n)), last);
            run.due(Call.widen(last - 1), last);
            run.due(Call.widen(last), last);
            for (int cube : Edges.noCubes(n)) {
                run.refused(Call.widen(cube));
            }
        }
    }

    private static void cubesOfOnePoint() {
        String sentence = "Terms: \"IN a cube if for each input i\"";
        for (int n = 1; n <= 8; n++) {
            int last = Edges.lastPoint(n);
            for (int point : new int[] {0, last, last / 3}) {
                Run run = Run.with(sentence, n, new int[] {Edges.pointCube(point, n)}, NONE);
                run.due(Call.missing(0), last);
                run.due(Call.literals(0), n);
                run.due(Call.holds(0, point), true);
                for (int i = 0; i < n; i++) {
                    run.due(Call.holds(0, point ^ 1 << i), false);
                }
            }
        }
    }

    private static void voidCubes() {
        String sentence = "Terms: \"VOID if for some input both its bits are 0 (no point is in it)\"";
        for (int n = 1; n <= 8; n++) {
            int last = Edges.lastCube(n);
            for (int i = 0; i < n; i++) {
                dueVoid(sentence, n, last & ~(3 << 2 * i));
                dueVoid(sentence, n, Edges.pointCube(0, n) & ~(3 << 2 * i));
                dueVoid(sentence, n, 1 << 2 * i & (n == 1 ? 0 : last));
                // One bit is enough for the cube not to be void.
                for (int value = 0; value <= 1; value++) {
                    int[] cube = {Edges.half(n, i, value)};
                    Run run = Run.with(sentence, n, cube, NONE);
                    run.due(Call.missing(0), 1 << n - 1);
                    run.due(Call.prime(0, 0), true);
                    run.due(Call.widen(cube[0]), cube[0]);
                    run.due(Call.minimize(), 1);
                }
            }
            dueVoid(sentence, n, 0);
        }
    }

    private static void dueVoid(String sentence, int n, int cube) {
        Run run = Run.with(sentence, n, new int[] {cube}, new int[] {cube});
        for (int list = 0; list < 2; list++) {
            run.due(Call.size(list), 1);
            run.due(Call.missing(list), 1 << n);
            run.due(Call.prime(list, 0), false);
            run.due(Call.holds(list, 0), false);
            run.due(Call.holds(list, Edges.lastPoint(n)), false);
        }
        run.due(Call.kind(0), 0);
        run.due(Call.kind(Edges.lastPoint(n)), 0);
        run.due(Call.minimize(), 0);
        run.due(Call.size(2), 0);
        run.refused(Call.widen(cube));
        // Where nothing is forbidden no cube touches, but this one is void all the same.
        run.due(Call.on(Edges.lastCube(n)), true);
        run.refused(Call.widen(cube));
        run.due(Call.prime(0, 0), false);
        run.due(Call.prime(0, 1), true);
        run.due(Call.minimize(), 1);
    }

    private static void literalsOfVoidInputs() {
        String sentence = "Terms: \"LITERALS (also those with both bits 0)\"";
        for (int n = 1; n <= 8; n++) {
            Run run = new Run(sentence);
            run.due(Call.start(n), true);
            run.due(Call.literals(0), 0);
            run.due(Call.on(Edges.lastCube(n)), true);
            run.due(Call.literals(0), 0);
            run.due(Call.on(0), true);
            run.due(Call.literals(0), n);
            for (int i = 0; i < n; i++) {
                run.due(Call.on(Edges.lastCube(n) & ~(3 << 2 * i)), true);
                run.due(Call.literals(0), n + i + 1);
            }
        }
        Run full = Run.with(sentence, 8, repeated(0, 24), repeated(65535, 24));
        full.due(Call.literals(0), 24 * 8);
        full.due(Call.literals(1), 0);
        full.due(Call.literals(2), 0);
    }

    private static void atMost24Cubes(int list) {
        String sentence = "Terms: \"each of at most 24 cubes\", list " + list;
        for (int n : new int[] {1, 4, 8}) {
            int last = Edges.lastCube(n);
            dueAtMost24(sentence, list, n, repeated(last, 24));
            dueAtMost24(sentence, list, n, repeated(0, 24));
            dueAtMost24(sentence, list, n, repeated(Edges.pointCube(1, n), 24));
            dueAtMost24(sentence, list, n, mixed(n));
        }
    }

    private static void dueAtMost24(String sentence, int list, int n, int[] cubes) {
        Run run = new Run(sentence);
        run.due(Call.start(n), true);
        run.due(Call.size(list), 0);
        for (int k = 0; k < 23; k++) {
            run.due(Call.adding(list, cubes[k]), true);
        }
        run.due(Call.size(list), 23);
        run.due(Call.cube(list, 23), -1);
        run.due(Call.adding(list, cubes[23]), true);
        run.due(Call.size(list), 24);
        for (int cube : new int[] {cubes[0], cubes[23], 0, 1, Edges.lastCube(n)}) {
            run.refused(Call.adding(list, cube));
        }
        run.dueList(list, cubes);
        // The other list has its own 24.
        run.dueList(1 - list);
        for (int cube : cubes) {
            run.due(Call.adding(1 - list, cube), true);
        }
        run.refused(Call.adding(1 - list, cubes[0]));
        run.dueList(1 - list, cubes);
        run.dueList(list, cubes);
        // An empty list takes cubes again.
        run.due(Call.start(n), true);
        run.due(Call.adding(list, cubes[0]), true);
        run.dueList(list, cubes[0]);
    }

    private static void orderWithEqualAndVoidCubes(int list) {
        String sentence = "Terms: \"in the order in which they were added, equal ones and void ones"
            + " too\", list " + list;
        int[] cubes = {255, 0, 255, 170, 3, 3, 0, 85, 12, 254, 1, 170, 0};
        Run run = new Run(sentence);
        for (int cube : cubes) {
            run.due(Call.adding(list, cube), true);
        }
        run.dueList(list, cubes);
        run.due(Call.minimize(), list == 0 ? 1 : 0);
        run.dueList(list, cubes);
        run.dueList(1 - list);
    }

    private static void pointsInNoCubeAndInOne() {
        String sentence = "Terms: \"IN a list if it is in some of its cubes\"";
        Run empty = new Run(sentence);
        for (int list = 0; list < 3; list++) {
            empty.due(Call.missing(list), 16);
            for (int point = 0; point < 16; point++) {
                empty.due(Call.holds(list, point), false);
            }
        }
        int[] cubes = cubesOfEveryTenthPoint();
        Run full = Run.with(sentence, 8, cubes, NONE);
        full.due(Call.missing(0), 256 - 24);
        for (int point = 0; point < 256; point++) {
            full.due(Call.holds(0, point), point % 10 == 0 && point < 240);
        }
        // No two of the points are neighbours, so the COVER has a cube for each as well.
        full.due(Call.minimize(), 24);
        full.dueList(2, cubes);
        full.due(Call.missing(2), 256 - 24);
        for (int k = 0; k < 24; k++) {
            full.due(Call.holds(2, 10 * k), true);
            full.due(Call.holds(2, 10 * k + 1), false);
        }
        Run fullDc = Run.with(sentence, 8, NONE, cubes);
        fullDc.due(Call.missing(1), 256 - 24);
        for (int point = 0; point < 256; point++) {
            fullDc.due(Call.holds(1, point), point % 10 == 0 && point < 240);
        }
    }

    /** ON has the points 0, 10 .. 230, DC 5, 15 .. 115 and 120, 130 .. 230. */
    private static void kinds(boolean onFirst) {
        String sentence = "Terms: \"A point in DC is INDIFFERENT; else one in ON is WANTED; else it is"
            + " FORBIDDEN\"";
        Run run = new Run(sentence);
        run.due(Call.start(8), true);
        for (int list : onFirst ? new int[] {0, 1} : new int[] {1, 0}) {
            for (int k = 0; k < 24; k++) {
                int point = list == 1 && k < 12 ? 10 * k + 5 : 10 * k;
                run.due(Call.adding(list, Edges.pointCube(point, 8)), true);
            }
        }
        for (int point = 0; point < 256; point++) {
            boolean inOn = point % 10 == 0 && point < 240;
            boolean inDc = point < 120 ? point % 10 == 5 : inOn;
            run.due(Call.kind(point), inDc ? 2 : inOn ? 1 : 0);
        }
    }

    private static void oneForbiddenPoint() {
        String sentence = "Terms: \"A cube TOUCHES if a forbidden point is in it\"";
        for (int n = 1; n <= 8; n++) {
            int lastPoint = Edges.lastPoint(n);
            int lastCube = Edges.lastCube(n);
            for (int point : new int[] {0, lastPoint, lastPoint / 3}) {
                Run run = new Run(sentence);
                run.due(Call.start(n), true);
                for (int i = 0; i < n; i++) {
                    run.due(Call.on(Edges.half(n, i, 1 - Edges.bit(point, i))), true);
                }
                run.due(Call.missing(0), 1);
                run.refused(Call.widen(lastCube));
                run.refused(Call.widen(Edges.pointCube(point, n)));
                for (int i = 0; i < n; i++) {
                    run.refused(Call.widen(Edges.half(n, i, Edges.bit(point, i))));
                    int half = Edges.half(n, i, 1 - Edges.bit(point, i));
                    run.due(Call.widen(Edges.pointCube(point ^ 1 << i, n)), half);
                    run.due(Call.widen(half), half);
                    run.due(Call.prime(0, i), true);
                }
                // As soon as that point is indifferent nothing is forbidden.
                run.due(Call.dc(Edges.pointCube(point, n)), true);
                run.due(Call.widen(lastCube), lastCube);
                run.due(Call.widen(Edges.pointCube(point, n)), lastCube);
                run.due(Call.prime(0, 0), false);
            }
        }
    }

    private static int[] repeated(int cube, int times) {
        int[] cubes = new int[times];
        for (int k = 0; k < times; k++) {
            cubes[k] = cube;
        }
        return cubes;
    }

    private static int[] mixed(int n) {
        int[] cubes = new int[24];
        for (int k = 0; k < 24; k++) {
            cubes[k] = (25 - k) * 2657 & Edges.lastCube(n);
        }
        return cubes;
    }

    private static int[] cubesOfEveryTenthPoint() {
        int[] cubes = new int[24];
        for (int k = 0; k < 24; k++) {
            cubes[k] = Edges.pointCube(10 * k, 8);
        }
        return cubes;
    }
}

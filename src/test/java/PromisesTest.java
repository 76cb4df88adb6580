/** Each promise of the document by itself: ordinary inputs, its edges, and wrong inputs. */
public final class PromisesTest {
    private static final int MIN = Integer.MIN_VALUE;
    private static final int MAX = Integer.MAX_VALUE;
    private static final int[] NO_LISTS = {-1, 3, 4, MIN, MAX};

    private PromisesTest() {
    }

    public static void main(String[] args) {
        newObject();
        start();
        startRefused();
        inputs();
        adding(true);
        adding(false);
        listsHaveTheirOwnLimits();
        size();
        cube();
        literals();
        kind();
        holds();
        missing();
        tautology();
        same();
        prime();
        widen();
        widenChangesNothing();
        minimizeEdges();
        minimizeLeavesVoidCubesOut();
        minimizeWithIndifferentPoints();
        minimizeDropsFromTheLast();
        minimizeRounds();
        minimizeStaysWithoutGain();
        minimizeEndsAfterEightRounds();
        minimizeChangesOnlyTheCover();
        Check.end();
    }

    private static void newObject() {
        CubeMin x = new CubeMin();
        Check.due("1 inputs()", x.inputs(), 4);
        dueEmpty("1", x);
        Check.due("1 kind(0)", x.kind(0), 0);
        Check.due("1 kind(15)", x.kind(15), 0);
        Check.due("1 kind(16)", x.kind(16), -1);
        Check.due("1 missing(0)", x.missing(0), 16);
        Check.due("1 on(256)", x.on(256), false);
        Check.due("1 on(255)", x.on(255), true);
        Check.due("1 a second object", new CubeMin().size(0), 0);
    }

    private static void start() {
        for (int n = 1; n <= 8; n++) {
            CubeMin x = filled();
            Check.due("2 start(" + n + ")", x.start(n), true);
            Check.due("2 inputs()", x.inputs(), n);
            dueEmpty("2 after start(" + n + ")", x);
            for (int point = 0; point < 1 << n; point++) {
                Check.due("2 kind(" + point + ")", x.kind(point), 0);
            }
            Check.due("2 kind(2^n)", x.kind(1 << n), -1);
            Check.due("2 minimize()", x.minimize(), 0);
        }
        CubeMin x = new CubeMin();
        x.start(8);
        x.on(65535);
        x.start(2);
        x.start(8);
        Check.due("2 kind(255) of a new function", x.kind(255), 0);
        // After more inputs and fewer again, points and cubes are those of the fewer.
        x.start(2);
        x.on(10);
        Check.due("2 holds(0, 3)", x.holds(0, 3), true);
        Check.due("2 missing(0)", x.missing(0), 3);
    }

    private static void startRefused() {
        for (int n : new int[] {0, -1, 9, 10, 32, 33, MIN, MAX}) {
            CubeMin x = filled();
            Check.due("2 start(" + n + ")", x.start(n), false);
            Check.due("2 inputs()", x.inputs(), 3);
            dueFilled("2 after start(" + n + ")", x);
        }
    }

    private static void inputs() {
        CubeMin x = new CubeMin();
        Check.due("3 inputs()", x.inputs(), 4);
        for (int n = 8; n >= 1; n--) {
            x.start(n);
            x.on(1);
            x.minimize();
            Check.due("3 inputs()", x.inputs(), n);
        }
        x.start(9);
        Check.due("3 inputs()", x.inputs(), 1);
    }

    private static boolean add(CubeMin x, boolean toOn, int cube) {
        return toOn ? x.on(cube) : x.dc(cube);
    }

    private static void adding(boolean toOn) {
        int list = toOn ? 0 : 1;
        String name = toOn ? "4 on" : "5 dc";
        for (int n = 1; n <= 8; n++) {
            CubeMin x = new CubeMin();
            x.start(n);
            int cubes = 1 << 2 * n;
            for (int wrong : new int[] {-1, cubes, cubes + 1, MIN, MAX}) {
                Check.due(name + " " + wrong, add(x, toOn, wrong), false);
            }
            Check.due(name + " none", x.size(list), 0);
            Check.due(name + " 0", add(x, toOn, 0), true);
            Check.due(name + " the last cube", add(x, toOn, cubes - 1), true);
            Check.due(name + " 0 again", add(x, toOn, 0), true);
            Check.due(name + " three", x.size(list), 3);
            Check.due(name + " the first", x.cube(list, 0), 0);
            Check.due(name + " the second", x.cube(list, 1), cubes - 1);
            Check.due(name + " the third", x.cube(list, 2), 0);
            Check.due(name + " the other list", x.size(1 - list), 0);
        }
        addingAndTheCover(toOn, name);
        addingTheLast(toOn, name);
    }

    private static void addingAndTheCover(boolean toOn, String name) {
        CubeMin x = filled();
        for (int wrong : new int[] {-1, 64, MIN, MAX}) {
            Check.due(name + " " + wrong, add(x, toOn, wrong), false);
            dueFilled(name + " refused", x);
        }
        Check.due(name + " 0", add(x, toOn, 0), true);
        Check.due(name + " empties the COVER", x.size(2), 0);
        Check.due(name + " empties the COVER", x.cube(2, 0), -1);
    }

    private static void addingTheLast(boolean toOn, String name) {
        int list = toOn ? 0 : 1;
        CubeMin x = new CubeMin();
        x.on(170);
        x.minimize();
        for (int k = x.size(list); k < 24; k++) {
            Check.due(name + " cube " + k, add(x, toOn, k), true);
        }
        x.minimize();
        int cover = x.size(2);
        Check.due(name + " there is a COVER", cover > 0, true);
        Check.due(name + " cube 24", add(x, toOn, 255), false);
        Check.due(name + " has 24", x.size(list), 24);
        Check.due(name + " cube 24", x.cube(list, 24), -1);
        Check.due(name + " cube 23", x.cube(list, 23), 23);
        Check.due(name + " the COVER stays", x.size(2), cover);
        Check.due(name + " no kind changes", x.kind(7), 0);
        x.start(4);
        Check.due(name + " after start", add(x, toOn, 255), true);
    }

    private static void listsHaveTheirOwnLimits() {
        CubeMin x = new CubeMin();
        for (int k = 0; k < 24; k++) {
            x.on(85);
        }
        Check.due("5 dc beside 24 of ON", x.dc(1), true);
        for (int k = 1; k < 24; k++) {
            Check.due("5 dc", x.dc(1), true);
        }
        Check.due("4 on", x.on(1), false);
        Check.due("5 dc", x.dc(1), false);
    }

    private static void size() {
        CubeMin x = filled();
        Check.due("6 size(0)", x.size(0), 5);
        Check.due("6 size(1)", x.size(1), 1);
        Check.due("6 size(2)", x.size(2), 1);
        for (int list : NO_LISTS) {
            Check.due("6 size(" + list + ")", x.size(list), -1);
        }
    }

    private static void cube() {
        CubeMin x = filled();
        int[] on = {26, 38, 0, 42, 22};
        for (int k = 0; k < on.length; k++) {
            Check.due("7 cube(0, " + k + ")", x.cube(0, k), on[k]);
        }
        Check.due("7 cube(1, 0)", x.cube(1, 0), 21);
        Check.due("7 cube(2, 0)", x.cube(2, 0), 62);
        for (int k : new int[] {-1, 5, 23, 24, 25, MIN, MAX}) {
            for (int list = 0; list < 3; list++) {
                Check.due("7 cube(" + list + ", " + k + ")", x.cube(list, k), -1);
            }
        }
        Check.due("7 cube(1, 1)", x.cube(1, 1), -1);
        for (int list : NO_LISTS) {
            Check.due("7 cube(" + list + ", 0)", x.cube(list, 0), -1);
        }
    }

    private static void literals() {
        CubeMin x = filled();
        Check.due("8 literals(0), the void cube too", x.literals(0), 15);
        Check.due("8 literals(1)", x.literals(1), 3);
        Check.due("8 literals(2)", x.literals(2), 1);
        for (int list : NO_LISTS) {
            Check.due("8 literals(" + list + ")", x.literals(list), -1);
        }
        x.start(8);
        Check.due("8 literals(0) of none", x.literals(0), 0);
        x.on(65535);
        Check.due("8 literals(0) of the free cube", x.literals(0), 0);
        x.on(0);
        x.on(21845);
        Check.due("8 literals(0)", x.literals(0), 16);
        x.on(32767);
        x.on(65532);
        Check.due("8 literals(0)", x.literals(0), 18);
    }

    private static void kind() {
        CubeMin x = new CubeMin();
        x.start(2);
        x.on(13);
        x.dc(10);
        Check.due("9 kind(0)", x.kind(0), 1);
        Check.due("9 kind(1)", x.kind(1), 0);
        Check.due("9 kind(2)", x.kind(2), 1);
        Check.due("9 kind(3)", x.kind(3), 2);
        x.dc(5);
        Check.due("9 kind(0), ON first, then DC", x.kind(0), 2);
        x.on(10);
        Check.due("9 kind(3), DC first, then ON", x.kind(3), 2);
        x.on(0);
        x.dc(3);
        Check.due("9 kind(1), void cubes hold nothing", x.kind(1), 0);
        for (int point : new int[] {-1, 4, 255, 256, MIN, MAX}) {
            Check.due("9 kind(" + point + ")", x.kind(point), -1);
        }
        x.start(8);
        x.on(43690);
        Check.due("9 kind(255)", x.kind(255), 1);
        Check.due("9 kind(256)", x.kind(256), -1);
    }

    private static void holds() {
        CubeMin x = new CubeMin();
        x.start(3);
        // Input 0 is 1, input 1 is 0, input 2 is free.
        x.on(54);
        x.dc(21);
        for (int point = 0; point < 8; point++) {
            Check.due("10 holds(0, " + point + ")", x.holds(0, point), point == 1 || point == 5);
            Check.due("10 holds(1, " + point + ")", x.holds(1, point), point == 0);
            Check.due("10 holds(2, " + point + ")", x.holds(2, point), false);
        }
        x.minimize();
        Check.due("10 holds(2, 5)", x.holds(2, 5), true);
        Check.due("10 holds(2, 0)", x.holds(2, 0), false);
        for (int point : new int[] {-1, 8, 9, 256, MIN, MAX}) {
            Check.due("10 holds(2, " + point + ")", x.holds(2, point), false);
        }
        for (int list : NO_LISTS) {
            Check.due("10 holds(" + list + ", 5)", x.holds(list, 5), false);
        }
        x.start(3);
        x.on(63);
        for (int point : new int[] {-1, 8, 9, 256, MIN, MAX}) {
            Check.due("10 holds(0, " + point + ")", x.holds(0, point), false);
        }
    }

    private static void missing() {
        CubeMin x = filled();
        Check.due("11 missing(0)", x.missing(0), 4);
        Check.due("11 missing(1)", x.missing(1), 7);
        Check.due("11 missing(2)", x.missing(2), 4);
        for (int list : NO_LISTS) {
            Check.due("11 missing(" + list + ")", x.missing(list), -1);
        }
        x.start(8);
        Check.due("11 missing(0) of none", x.missing(0), 256);
        x.on(0);
        Check.due("11 missing(0) of a void cube", x.missing(0), 256);
        x.on(65533);
        Check.due("11 missing(0)", x.missing(0), 128);
        x.on(65533);
        Check.due("11 missing(0), the same cube twice", x.missing(0), 128);
        x.on(65534);
        Check.due("11 missing(0) of all points", x.missing(0), 0);
    }

    private static void tautology() {
        CubeMin x = new CubeMin();
        for (int list = -1; list < 4; list++) {
            Check.due("12 tautology(" + list + ") of none", x.tautology(list), false);
        }
        x.on(254);
        x.dc(255);
        Check.due("12 tautology(0)", x.tautology(0), false);
        Check.due("12 tautology(1)", x.tautology(1), true);
        x.on(253);
        Check.due("12 tautology(0)", x.tautology(0), true);
        x.minimize();
        Check.due("12 tautology(2), nothing is wanted", x.tautology(2), false);
        x.start(4);
        x.on(254);
        x.on(253);
        x.minimize();
        Check.due("12 tautology(2)", x.tautology(2), true);
        x.start(8);
        x.on(65534);
        x.on(32767);
        x.on(65525);
        Check.due("12 tautology(0), one eighth is missing", x.tautology(0), false);
        x.start(2);
        x.on(7);
        x.on(9);
        Check.due("12 tautology(0), one point is missing", x.tautology(0), false);
        x.on(10);
        Check.due("12 tautology(0), one cube a point", x.tautology(0), true);
        for (int list : NO_LISTS) {
            Check.due("12 tautology(" + list + ")", x.tautology(list), false);
        }
    }

    private static void same() {
        CubeMin x = new CubeMin();
        x.start(2);
        Check.due("13 same(0, 1) of none", x.same(0, 1), true);
        x.on(13);
        x.dc(10);
        Check.due("13 same(0, 0)", x.same(0, 0), true);
        Check.due("13 same(1, 1)", x.same(1, 1), true);
        Check.due("13 same(0, 1)", x.same(0, 1), false);
        Check.due("13 same(1, 0)", x.same(1, 0), false);
        Check.due("13 same(1, 2), apart only in an indifferent point", x.same(1, 2), true);
        Check.due("13 same(0, 2) before", x.same(0, 2), false);
        Check.due("13 same(2, 0) before", x.same(2, 0), false);
        x.minimize();
        Check.due("13 same(0, 2) after", x.same(0, 2), true);
        Check.due("13 same(2, 0) after", x.same(2, 0), true);
        Check.due("13 same(2, 1)", x.same(2, 1), false);
        x.dc(13);
        Check.due("13 same(0, 1), all of ON is indifferent", x.same(0, 1), true);
        for (int list : NO_LISTS) {
            for (int other = 0; other < 3; other++) {
                Check.due("13 same(" + list + ", ..)", x.same(list, other), false);
                Check.due("13 same(.., " + list + ")", x.same(other, list), false);
            }
            Check.due("13 same of no lists", x.same(list, list), false);
        }
    }

    private static void prime() {
        CubeMin x = new CubeMin();
        x.start(3);
        // The points 1, 3 and 5, then 3 and 7 as indifferent ones.
        x.on(30);
        x.on(54);
        x.on(22);
        x.on(0);
        x.on(12);
        Check.due("14 prime(0, 0)", x.prime(0, 0), true);
        Check.due("14 prime(0, 1)", x.prime(0, 1), true);
        Check.due("14 prime(0, 2), two literals can go", x.prime(0, 2), false);
        Check.due("14 prime(0, 3), void", x.prime(0, 3), false);
        Check.due("14 prime(0, 4), void", x.prime(0, 4), false);
        x.dc(58);
        Check.due("14 prime(0, 0), now its last literal can go", x.prime(0, 0), false);
        Check.due("14 prime(0, 1), now its middle one can go", x.prime(0, 1), false);
        Check.due("14 prime(1, 0), not all of its literals stay", x.prime(1, 0), false);
        Check.due("14 prime(2, 0), not there yet", x.prime(2, 0), false);
        Check.due("14 minimize()", x.minimize(), 1);
        Check.due("14 prime(2, 0)", x.prime(2, 0), true);
        for (int k : new int[] {-1, 5, 24, MIN, MAX}) {
            Check.due("14 prime(0, " + k + ")", x.prime(0, k), false);
        }
        for (int list : NO_LISTS) {
            Check.due("14 prime(" + list + ", 0)", x.prime(list, 0), false);
        }
        x.start(3);
        x.dc(63);
        Check.due("14 prime(1, 0), no literal at all", x.prime(1, 0), true);
        x.start(8);
        x.on(32767);
        x.dc(24575);
        Check.due("14 prime(0, 0), the last input", x.prime(0, 0), true);
        Check.due("14 prime(1, 0), the last but one can go", x.prime(1, 0), false);
        x.on(32764);
        Check.due("14 prime(0, 1), void", x.prime(0, 1), false);
        x.start(1);
        x.on(0);
        Check.due("14 prime(0, 0), void, and it touches when it is made free", x.prime(0, 0), false);
    }

    private static void widen() {
        CubeMin x = new CubeMin();
        x.start(2);
        x.on(5);
        x.on(6);
        x.on(9);
        Check.due("15 widen(5), input 0 is tried first", x.widen(5), 7);
        Check.due("15 widen(6)", x.widen(6), 7);
        Check.due("15 widen(9)", x.widen(9), 13);
        Check.due("15 widen(7)", x.widen(7), 7);
        Check.due("15 widen(10) touches", x.widen(10), -1);
        Check.due("15 widen(11) touches", x.widen(11), -1);
        Check.due("15 widen(15) touches", x.widen(15), -1);
        for (int cube : new int[] {0, 1, 3, 4, 12}) {
            Check.due("15 widen(" + cube + ") void", x.widen(cube), -1);
        }
        for (int cube : new int[] {-1, 16, 21, MIN, MAX}) {
            Check.due("15 widen(" + cube + ") no cube", x.widen(cube), -1);
        }
        x.dc(10);
        Check.due("15 widen(5), all free", x.widen(5), 15);
        Check.due("15 widen(10), an indifferent point", x.widen(10), 15);
        Check.due("15 widen(3) still void", x.widen(3), -1);
        x.start(8);
        x.on(65534);
        Check.due("15 widen(43690)", x.widen(43690), 65534);
        Check.due("15 widen(65536)", x.widen(65536), -1);
        Check.due("15 widen(43689)", x.widen(43689), -1);
    }

    private static void widenChangesNothing() {
        CubeMin x = filled();
        for (int cube = -1; cube <= 64; cube++) {
            x.widen(cube);
        }
        dueFilled("15 after widen", x);
    }

    private static void minimizeEdges() {
        for (int n = 1; n <= 8; n++) {
            int free = (1 << 2 * n) - 1;
            CubeMin x = new CubeMin();
            x.start(n);
            Check.due("16 minimize() of none", x.minimize(), 0);
            x.on(0);
            Check.due("16 minimize() of a void cube", x.minimize(), 0);
            Check.due("16 size(2)", x.size(2), 0);
            x.on(free - 1);
            x.on(0);
            Check.due("16 minimize() of one cube", x.minimize(), 1);
            Check.due("16 cube(2, 0)", x.cube(2, 0), free - 1);
            x.on(free - 2);
            Check.due("16 minimize() of two halves", x.minimize(), 1);
            Check.due("16 cube(2, 0)", x.cube(2, 0), free);
            Check.due("16 minimize() again", x.minimize(), 1);
            Check.due("16 cube(2, 0)", x.cube(2, 0), free);
        }
        CubeMin x = new CubeMin();
        x.start(8);
        // Odd parity of the inputs 0 to 4: no two of its cubes are neighbours, so none widens.
        int points = 0;
        for (int point = 0; point < 32; point++) {
            if (Integer.bitCount(point) % 2 == 1) {
                Check.due("16 on", x.on(64512 + pointCube(point, 5)), true);
                points++;
            }
        }
        Check.due("16 minimize() of a parity", x.minimize(), points);
        for (int k = 0; k < points; k++) {
            Check.due("16 cube(2, " + k + ")", x.cube(2, k), x.cube(0, k));
        }
    }

    private static int pointCube(int point, int n) {
        int cube = 0;
        for (int i = 0; i < n; i++) {
            cube |= ((point >> i & 1) == 1 ? 2 : 1) << 2 * i;
        }
        return cube;
    }

    /** Void cube 4 would widen to 7 and so stand before 13. */
    private static void minimizeLeavesVoidCubesOut() {
        CubeMin x = minimized(2, new int[] {4, 9, 5, 6}, new int[] {});
        dueCover("16 a void cube is left out before it is widened", x, 13, 7);
    }

    private static void minimizeWithIndifferentPoints() {
        CubeMin x = minimized(2, new int[] {5, 10}, new int[] {6});
        dueCover("16 the indifferent point 1 is used", x, 7, 14);
        x = minimized(2, new int[] {5, 10}, new int[] {14});
        dueCover("16 a cube that is wholly indifferent goes", x, 7);
        x = minimized(2, new int[] {5, 10}, new int[] {15});
        dueCover("16 nothing is wanted", x);
    }

    /** The six primes of a ring of six points, in turn: every second one is enough. */
    private static void minimizeDropsFromTheLast() {
        CubeMin x = minimized(3, new int[] {30, 27, 57, 45, 39, 54}, new int[] {});
        dueCover("16 the ring's primes", x, 30, 57, 39);
        x = minimized(3, new int[] {54, 39, 45, 57, 27, 30}, new int[] {});
        dueCover("16 the ring's primes, backwards", x, 54, 45, 27);
    }

    private static void minimizeRounds() {
        // The same ring as points: the first pass leaves 4 cubes, round 1 finds 3.
        CubeMin x = minimized(3, new int[] {22, 25, 26, 37, 38, 41}, new int[] {});
        dueCover("16 the ring's points", x, 54, 27, 45);
        x = minimized(4, new int[] {123, 171, 154, 151}, new int[] {});
        dueCover("16 as many cubes with fewer literals", x, 123, 235, 250, 151);
        Check.due("16 literals(2)", x.literals(2), 9);
    }

    private static void minimizeStaysWithoutGain() {
        CubeMin x = minimized(3, new int[] {27, 41, 39}, new int[] {});
        dueCover("16 the copy has as many cubes and literals", x, 27, 45, 39);
        x = minimized(4, new int[] {109, 187, 159, 182}, new int[] {});
        dueCover("16 the copy has more literals", x, 109, 187, 159, 190);
    }

    /** Rounds 9 and 10 would still gain here, down to 7 cubes. */
    private static void minimizeEndsAfterEightRounds() {
        int[] on = {1723, 3417, 1461, 2010, 2685, 3931, 1894, 2745, 1461, 1621,
            1786, 2798, 1710, 2463, 3941, 2665, 2541, 2474, 1694, 1513};
        int[] dc = {2779, 3439, 1381, 2430, 3446, 1693, 1705, 2550, 2398, 3414,
            2457, 1721, 2905, 1430, 2406};
        CubeMin x = minimized(6, on, dc);
        dueCover("16 eight rounds", x, 3565, 3931, 3509, 3067, 3943, 3677, 3822, 1950);
        Check.due("16 literals(2)", x.literals(2), 26);
    }

    private static void minimizeChangesOnlyTheCover() {
        CubeMin x = filled();
        for (int again = 0; again < 3; again++) {
            Check.due("16 minimize()", x.minimize(), 1);
            dueFilled("16 after minimize", x);
        }
    }

    private static CubeMin minimized(int n, int[] on, int[] dc) {
        CubeMin x = new CubeMin();
        x.start(n);
        for (int cube : on) {
            x.on(cube);
        }
        for (int cube : dc) {
            x.dc(cube);
        }
        Check.due("16 size(0)", x.size(0), on.length);
        Check.due("16 size(1)", x.size(1), dc.length);
        Check.due("16 minimize() answers size(2)", x.minimize(), x.size(2));
        return x;
    }

    private static void dueCover(String what, CubeMin x, int... cubes) {
        Check.due(what + ": size(2)", x.size(2), cubes.length);
        for (int k = 0; k < cubes.length; k++) {
            Check.due(what + ": cube(2, " + k + ")", x.cube(2, k), cubes[k]);
            Check.due(what + ": prime(2, " + k + ")", x.prime(2, k), true);
        }
        Check.due(what + ": cube(2, size)", x.cube(2, cubes.length), -1);
        Check.due(what + ": same(0, 2)", x.same(0, 2), true);
    }

    /** Three inputs, five cubes in ON, one of them void, one in DC, and a COVER of one cube. */
    private static CubeMin filled() {
        CubeMin x = new CubeMin();
        x.start(3);
        x.on(26);
        x.on(38);
        x.on(0);
        x.on(42);
        x.on(22);
        x.dc(21);
        x.minimize();
        return x;
    }

    private static void dueFilled(String what, CubeMin x) {
        int[] on = {26, 38, 0, 42, 22};
        int[] kinds = {2, 1, 0, 1, 0, 1, 0, 1};
        Check.due(what + ": inputs()", x.inputs(), 3);
        Check.due(what + ": size(0)", x.size(0), on.length);
        for (int k = 0; k < on.length; k++) {
            Check.due(what + ": cube(0, " + k + ")", x.cube(0, k), on[k]);
        }
        Check.due(what + ": size(1)", x.size(1), 1);
        Check.due(what + ": cube(1, 0)", x.cube(1, 0), 21);
        Check.due(what + ": size(2)", x.size(2), 1);
        Check.due(what + ": cube(2, 0)", x.cube(2, 0), 62);
        for (int point = 0; point < kinds.length; point++) {
            Check.due(what + ": kind(" + point + ")", x.kind(point), kinds[point]);
        }
    }

    private static void dueEmpty(String what, CubeMin x) {
        for (int list = 0; list < 3; list++) {
            Check.due(what + ": size(" + list + ")", x.size(list), 0);
            Check.due(what + ": cube(" + list + ", 0)", x.cube(list, 0), -1);
        }
    }
}

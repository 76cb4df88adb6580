import java.util.Random;

/** Long runs of calls, the same ones every time, on the class and on the model side by side. */
public final class RandomRunsTest {
    private static final int[] STRANGE = {-1, -2, 24, 25, 255, 256, 65535, 65536,
        Integer.MAX_VALUE, Integer.MIN_VALUE, Integer.MIN_VALUE + 1, 1 << 30, 1 << 16 | 3};

    private final Random random;
    private final CubeMin tried = new CubeMin();
    private final Model model = new Model();
    private final String name;

    private RandomRunsTest(int seed) {
        random = new Random(seed);
        name = "run " + seed + ": ";
    }

    public static void main(String[] args) {
        for (int seed = 0; seed < 300 && Check.wrongSoFar() < 20; seed++) {
            new RandomRunsTest(seed).mixedCalls();
        }
        for (int seed = 1000; seed < 3000 && Check.wrongSoFar() < 20; seed++) {
            new RandomRunsTest(seed).oneFunction();
        }
        Check.end();
    }

    private void compare(Call call) {
        Check.due(name + call, call.answer(tried), call.answer(model));
    }

    private void mixedCalls() {
        for (int call = 0; call < Run.MOST_CALLS; call++) {
            if (random.nextInt(60) == 0) {
                compare(Call.start(random.nextInt(12) - 1));
            } else if (random.nextInt(4) == 0) {
                compare(someChange());
            } else {
                compare(someQuestion());
            }
        }
    }

    private Call someChange() {
        int cube = nowAndThenStrange(someCube(random.nextInt(4)));
        return switch (random.nextInt(5)) {
            case 0, 1 -> Call.on(cube);
            case 2 -> Call.dc(cube);
            default -> Call.minimize();
        };
    }

    private Call someQuestion() {
        int list = nowAndThenStrange(random.nextInt(4));
        int other = nowAndThenStrange(random.nextInt(4));
        int k = nowAndThenStrange(random.nextInt(8));
        int point = nowAndThenStrange(random.nextInt(1 << model.inputs()));
        int cube = nowAndThenStrange(someCube(random.nextInt(4)));
        return switch (random.nextInt(11)) {
            case 0 -> Call.inputs();
            case 1 -> Call.size(list);
            case 2 -> Call.cube(list, k);
            case 3 -> Call.literals(list);
            case 4 -> Call.kind(point);
            case 5 -> Call.holds(list, point);
            case 6 -> Call.missing(list);
            case 7 -> Call.tautology(list);
            case 8 -> Call.same(list, other);
            case 9 -> Call.prime(list, k);
            default -> Call.widen(cube);
        };
    }

    /** One function with many cubes, so that the rounds of minimize have something to do. */
    private void oneFunction() {
        compare(Call.start(3 + random.nextInt(6)));
        int freedom = random.nextInt(4);
        int onCubes = 4 + random.nextInt(22);
        int dcCubes = random.nextInt(2) * random.nextInt(26);
        for (int k = 0; k < onCubes; k++) {
            compare(Call.on(someCube(freedom)));
        }
        for (int k = 0; k < dcCubes; k++) {
            compare(Call.dc(someCube(freedom)));
        }
        compare(Call.minimize());
        for (int list = -1; list <= 3; list++) {
            compare(Call.size(list));
            for (int k = -1; k <= model.size(list); k++) {
                compare(Call.cube(list, k));
            }
        }
        checkCover();
    }

    /** What "Terms" says of the list that is found. */
    private void checkCover() {
        Check.due(name + "same(0, 2)", tried.same(0, 2), true);
        Check.atMost(name + "size(2)", tried.size(2), tried.size(0));
        for (int k = 0; k < tried.size(2); k++) {
            Check.due(name + "prime(2, " + k + ")", tried.prime(2, k), true);
            Check.due(name + "cube " + k + " of the COVER can be left out", canBeLeftOut(k), false);
        }
    }

    /** The model's COVER has been compared already, and its calls are not counted. */
    private boolean canBeLeftOut(int cube) {
        Model others = new Model();
        others.start(model.inputs());
        for (int k = 0; k < model.size(2); k++) {
            if (k != cube) {
                others.on(model.cube(2, k));
            }
        }
        for (int point = 0; point <= Edges.lastPoint(model.inputs()); point++) {
            if (model.kind(point) == 1 && !others.holds(0, point)) {
                return false;
            }
        }
        return true;
    }

    private int nowAndThenStrange(int usual) {
        return random.nextInt(12) == 0 ? STRANGE[random.nextInt(STRANGE.length)] : usual;
    }

    /** A cube in which an input is free in freedom of 4 cases; now and then a void one. */
    private int someCube(int freedom) {
        int cube = 0;
        boolean mayBeVoid = random.nextInt(8) == 0;
        for (int i = 0; i < model.inputs(); i++) {
            int bits = random.nextInt(4) < freedom ? 3 : 1 + random.nextInt(2);
            cube |= (mayBeVoid && random.nextInt(4) == 0 ? 0 : bits) << 2 * i;
        }
        return cube;
    }
}

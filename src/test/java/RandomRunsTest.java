import java.util.Random;

/** Long runs of calls, the same ones every time, on the class and on the model side by side. */
public final class RandomRunsTest {
    private static final int[] STRANGE = {-1, -2, 24, 25, 255, 256, 65535, 65536,
        Integer.MAX_VALUE, Integer.MIN_VALUE, Integer.MIN_VALUE + 1, 1 << 30, 1 << 16 | 3};

    private final Random random;
    private final CubeMin tried = new CubeMin();
    private final Model model = new Model();
    private final String name;

    private RandomRunsTest(int seed) {
        random = new Random(seed);
        name = "run " + seed + ": ";
    }

    public static void main(String[] args) {
        for (int seed = 0; seed < 300 && Check.wrongSoFar() < 20; seed++) {
            new RandomRunsTest(seed).mixedCalls(512);
        }
        for (int seed = 1000; seed < 3000 && Check.wrongSoFar() < 20; seed++) {
            new RandomRunsTest(seed).oneFunction();
        }
        Check.end();
    }

    private void mixedCalls(int calls) {
        for (int call = 0; call < calls; call++) {
            if (random.nextInt(60) == 0) {
                int n = random.nextInt(12) - 1;
                Check.due(name + "start(" + n + ")", tried.start(n), model.start(n));
            } else if (random.nextInt(4) == 0) {
                change();
            } else {
                ask();
            }
        }
    }

    private void change() {
        int cube = random.nextInt(12) == 0 ? strange() : someCube(random.nextInt(4));
        switch (random.nextInt(5)) {
            case 0:
            case 1:
                Check.due(name + "on(" + cube + ")", tried.on(cube), model.on(cube));
                break;
            case 2:
                Check.due(name + "dc(" + cube + ")", tried.dc(cube), model.dc(cube));
                break;
            default:
                Check.due(name + "minimize()", tried.minimize(), model.minimize());
                break;
        }
    }

    private void ask() {
        int list = random.nextInt(12) == 0 ? strange() : random.nextInt(4);
        int other = random.nextInt(12) == 0 ? strange() : random.nextInt(4);
        int k = random.nextInt(12) == 0 ? strange() : random.nextInt(8);
        int point = random.nextInt(12) == 0 ? strange() : random.nextInt(1 << model.inputs());
        int cube = random.nextInt(12) == 0 ? strange() : someCube(random.nextInt(4));
        switch (random.nextInt(11)) {
            case 0:
                Check.due(name + "inputs()", tried.inputs(), model.inputs());
                break;
            case 1:
                Check.due(name + "size(" + list + ")", tried.size(list), model.size(list));
                break;
            case 2:
                Check.due(name + "cube(" + list + ", " + k + ")",
                    tried.cube(list, k), model.cube(list, k));
                break;
            case 3:
                Check.due(name + "literals(" + list + ")",
                    tried.literals(list), model.literals(list));
                break;
            case 4:
                Check.due(name + "kind(" + point + ")", tried.kind(point), model.kind(point));
                break;
            case 5:
                Check.due(name + "holds(" + list + ", " + point + ")",
                    tried.holds(list, point), model.holds(list, point));
                break;
            case 6:
                Check.due(name + "missing(" + list + ")",
                    tried.missing(list), model.missing(list));
                break;
            case 7:
                Check.due(name + "tautology(" + list + ")",
                    tried.tautology(list), model.tautology(list));
                break;
            case 8:
                Check.due(name + "same(" + list + ", " + other + ")",
                    tried.same(list, other), model.same(list, other));
                break;
            case 9:
                Check.due(name + "prime(" + list + ", " + k + ")",
                    tried.prime(list, k), model.prime(list, k));
                break;
            default:
                Check.due(name + "widen(" + cube + ")", tried.widen(cube), model.widen(cube));
                break;
        }
    }

    /** One function with many cubes, so that the rounds of minimize have something to do. */
    private void oneFunction() {
        int n = 3 + random.nextInt(6);
        tried.start(n);
        model.start(n);
        int freedom = random.nextInt(4);
        int onCubes = 4 + random.nextInt(22);
        int dcCubes = random.nextInt(2) * random.nextInt(26);
        for (int k = 0; k < onCubes; k++) {
            int cube = someCube(freedom);
            Check.due(name + "on(" + cube + ")", tried.on(cube), model.on(cube));
        }
        for (int k = 0; k < dcCubes; k++) {
            int cube = someCube(freedom);
            Check.due(name + "dc(" + cube + ")", tried.dc(cube), model.dc(cube));
        }
        Check.due(name + "minimize()", tried.minimize(), model.minimize());
        compareAll();
        checkCover();
    }

    private void compareAll() {
        for (int list = -1; list <= 3; list++) {
            Check.due(name + "size(" + list + ")", tried.size(list), model.size(list));
            for (int k = -1; k <= model.size(list); k++) {
                Check.due(name + "cube(" + list + ", " + k + ")",
                    tried.cube(list, k), model.cube(list, k));
            }
        }
    }

    /** What "Terms" says of the list that is found. */
    private void checkCover() {
        Check.due(name + "same(0, 2)", tried.same(0, 2), true);
        Check.due(name + "size(2) <= size(0)", tried.size(2) <= tried.size(0), true);
        for (int k = 0; k < tried.size(2); k++) {
            Check.due(name + "prime(2, " + k + ")", tried.prime(2, k), true);
        }
    }

    private int strange() {
        return STRANGE[random.nextInt(STRANGE.length)];
    }

    /** A cube in which an input is free in freedom of 4 cases; now and then a void one. */
    private int someCube(int freedom) {
        int cube = 0;
        boolean mayBeVoid = random.nextInt(8) == 0;
        for (int i = 0; i < model.inputs(); i++) {
            int bits = random.nextInt(4) < freedom ? 3 : 1 + random.nextInt(2);
            cube |= (mayBeVoid && random.nextInt(4) == 0 ? 0 : bits) << 2 * i;
        }
        return cube;
    }
}

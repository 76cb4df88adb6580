/** Makes a two-level logic function small. */
public final class CubeMin {
    private static final int MOST_INPUTS = 8;
    private static final int MOST_POINTS = 1 << MOST_INPUTS;
    private static final int MOST_CUBES = 24;
    private static final int FIRST_INPUTS = 4;
    private static final int ROUNDS = 8;

    private static final int ON = 0;
    private static final int DC = 1;
    private static final int COVER = 2;

    private static final int FORBIDDEN = 0;
    private static final int WANTED = 1;
    private static final int INDIFFERENT = 2;

    private static final int REFUSED = -1;
    private static final int FREE_BITS = 3;

    private final CubeList onList;
    private final CubeList dcList;
    private final CubeList coverList;
    /** The copy that a round works on; it is kept so that no call makes an object. */
    private final CubeList trialList;
    /** For each point the cube in which it alone is. */
    private final int[] pointCubes;
    private final int[] kinds;
    /** For each point in how many cubes of the list under work it is. */
    private final int[] holders;
    private int inputCount;

    public CubeMin() {
        onList = new CubeList();
        dcList = new CubeList();
        coverList = new CubeList();
        trialList = new CubeList();
        pointCubes = new int[MOST_POINTS];
        kinds = new int[MOST_POINTS];
        holders = new int[MOST_POINTS];
        begin(FIRST_INPUTS);
    }

    public boolean start(int n) {
        if (n < 1 || n > MOST_INPUTS) {
            return false;
        }
        begin(n);
        return true;
    }

    public int inputs() {
        return inputCount;
    }

    public boolean on(int cube) {
        if (!isCube(cube) || !onList.append(cube)) {
            return false;
        }
        markWanted(cube);
        coverList.clear();
        return true;
    }

    public boolean dc(int cube) {
        if (!isCube(cube) || !dcList.append(cube)) {
            return false;
        }
        markIndifferent(cube);
        coverList.clear();
        return true;
    }

    public int size(int list) {
        CubeList cubes = listAt(list);
        return cubes == null ? REFUSED : cubes.length();
    }

    public int cube(int list, int k) {
        CubeList cubes = listAt(list);
        return cubes == null ? REFUSED : cubes.at(k);
    }

    public int literals(int list) {
        CubeList cubes = listAt(list);
        return cubes == null ? REFUSED : countLiterals(cubes);
    }

    public int kind(int point) {
        return isPoint(point) ? kinds[point] : REFUSED;
    }

    public boolean holds(int list, int point) {
        CubeList cubes = listAt(list);
        return cubes != null && isPoint(point) && isInList(cubes, point);
    }

    public int missing(int list) {
        CubeList cubes = listAt(list);
        return cubes == null ? REFUSED : countMissing(cubes);
    }

    public boolean tautology(int list) {
        CubeList cubes = listAt(list);
        return cubes != null && countMissing(cubes) == 0;
    }

    public boolean same(int list, int other) {
        CubeList one = listAt(list);
        CubeList two = listAt(other);
        return one != null && two != null && agree(one, two);
    }

    public boolean prime(int list, int k) {
        CubeList cubes = listAt(list);
        if (cubes == null) {
            return false;
        }
        int cube = cubes.at(k);
        return cube != REFUSED && !isVoid(cube) && !touches(cube) && cannotGrow(cube);
    }

    public int widen(int cube) {
        if (!isCube(cube) || isVoid(cube) || touches(cube)) {
            return REFUSED;
        }
        return widened(cube, true);
    }

    public int minimize() {
        fillCover();
        makePass(coverList, true);
        boolean better = true;
        for (int round = 1; round <= ROUNDS && better; round++) {
            trialList.copyFrom(coverList);
            narrow(trialList);
            makePass(trialList, round % 2 == 0);
            better = isSmaller(trialList, coverList);
            if (better) {
                coverList.copyFrom(trialList);
            }
        }
        return coverList.length();
    }

    private void begin(int n) {
        inputCount = n;
        onList.clear();
        dcList.clear();
        coverList.clear();
        fillPointCubes();
        for (int point = 0; point < MOST_POINTS; point++) {
            kinds[point] = FORBIDDEN;
        }
    }

    /** Each input doubles the points that are there: the old ones have it 0, the new ones 1. */
    private void fillPointCubes() {
        pointCubes[0] = 0;
        for (int input = 0; input < inputCount; input++) {
            int old = 1 << input;
            for (int point = 0; point < old; point++) {
                pointCubes[point + old] = pointCubes[point] | 2 << 2 * input;
                pointCubes[point] |= 1 << 2 * input;
            }
        }
    }

    private int pointCount() {
        return 1 << inputCount;
    }

    private boolean isPoint(int point) {
        return point >= 0 && point < pointCount();
    }

    private boolean isCube(int cube) {
        return cube >= 0 && cube < 1 << 2 * inputCount;
    }

    private CubeList listAt(int list) {
        switch (list) {
            case ON:
                return onList;
            case DC:
                return dcList;
            case COVER:
                return coverList;
            default:
                return null;
        }
    }

    private static int freed(int cube, int input) {
        return cube | FREE_BITS << 2 * input;
    }

    private boolean isVoid(int cube) {
        for (int input = 0; input < inputCount; input++) {
            if ((cube >> 2 * input & FREE_BITS) == 0) {
                return true;
            }
        }
        return false;
    }

    private boolean isInCube(int cube, int point) {
        return (pointCubes[point] & ~cube) == 0;
    }

    private boolean isInList(CubeList list, int point) {
        for (int k = 0; k < list.length(); k++) {
            if (isInCube(list.at(k), point)) {
                return true;
            }
        }
        return false;
    }

    private void markWanted(int cube) {
        int points = pointCount();
        for (int point = 0; point < points; point++) {
            if (kinds[point] == FORBIDDEN && isInCube(cube, point)) {
                kinds[point] = WANTED;
            }
        }
    }

    private void markIndifferent(int cube) {
        int points = pointCount();
        for (int point = 0; point < points; point++) {
            if (isInCube(cube, point)) {
                kinds[point] = INDIFFERENT;
            }
        }
    }

    private int countLiterals(CubeList list) {
        int sum = 0;
        for (int k = 0; k < list.length(); k++) {
            int cube = list.at(k);
            for (int input = 0; input < inputCount; input++) {
                if (freed(cube, input) != cube) {
                    sum++;
                }
            }
        }
        return sum;
    }

    private int countMissing(CubeList list) {
        int points = pointCount();
        int sum = 0;
        for (int point = 0; point < points; point++) {
            if (!isInList(list, point)) {
                sum++;
            }
        }
        return sum;
    }

    private boolean agree(CubeList one, CubeList two) {
        int points = pointCount();
        for (int point = 0; point < points; point++) {
            if (kinds[point] != INDIFFERENT && isInList(one, point) != isInList(two, point)) {
                return false;
            }
        }
        return true;
    }

    private boolean touches(int cube) {
        int points = pointCount();
        for (int point = 0; point < points; point++) {
            if (kinds[point] == FORBIDDEN && isInCube(cube, point)) {
                return true;
            }
        }
        return false;
    }

    private boolean cannotGrow(int cube) {
        for (int input = 0; input < inputCount; input++) {
            int wider = freed(cube, input);
            if (wider != cube && !touches(wider)) {
                return false;
            }
        }
        return true;
    }

    private int widened(int cube, boolean ascending) {
        int wide = cube;
        for (int step = 0; step < inputCount; step++) {
            int input = ascending ? step : inputCount - 1 - step;
            int wider = freed(wide, input);
            if (wider != wide && !touches(wider)) {
                wide = wider;
            }
        }
        return wide;
    }

    private void fillCover() {
        coverList.clear();
        for (int k = 0; k < onList.length(); k++) {
            int cube = onList.at(k);
            if (!isVoid(cube)) {
                coverList.append(cube);
            }
        }
    }

    private void makePass(CubeList list, boolean ascending) {
        for (int k = 0; k < list.length(); k++) {
            list.put(k, widened(list.at(k), ascending));
        }
        dropNeedless(list);
    }

    private void dropNeedless(CubeList list) {
        countHolders(list);
        for (int k = list.length() - 1; k >= 0; k--) {
            int cube = list.at(k);
            if (ownPart(cube) == 0) {
                addToHolders(cube, -1);
                list.takeOut(k);
            }
        }
    }

    private void narrow(CubeList list) {
        countHolders(list);
        for (int k = 0; k < list.length(); k++) {
            int cube = list.at(k);
            int part = ownPart(cube);
            addToHolders(cube, -1);
            addToHolders(part, 1);
            list.put(k, part);
        }
    }

    private void countHolders(CubeList list) {
        for (int point = 0; point < MOST_POINTS; point++) {
            holders[point] = 0;
        }
        for (int k = 0; k < list.length(); k++) {
            addToHolders(list.at(k), 1);
        }
    }

    private void addToHolders(int cube, int change) {
        int points = pointCount();
        for (int point = 0; point < points; point++) {
            if (isInCube(cube, point)) {
                holders[point] += change;
            }
        }
    }

    /**
     * The smallest cube with the wanted points that only this cube of the counted list holds;
     * 0 if there are none, for no point's own cube is 0.
     */
    private int ownPart(int cube) {
        int points = pointCount();
        int part = 0;
        for (int point = 0; point < points; point++) {
            if (kinds[point] == WANTED && holders[point] == 1 && isInCube(cube, point)) {
                part |= pointCubes[point];
            }
        }
        return part;
    }

    private boolean isSmaller(CubeList one, CubeList two) {
        if (one.length() != two.length()) {
            return one.length() < two.length();
        }
        return countLiterals(one) < countLiterals(two);
    }

    /** Cubes in order, of a bounded number; an index that names no cube is refused. */
    private static final class CubeList {
        private final int[] cubes;
        private int count;

        CubeList() {
            cubes = new int[MOST_CUBES];
            count = 0;
        }

        int length() {
            return count;
        }

        void clear() {
            count = 0;
        }

        int at(int k) {
            return k >= 0 && k < count ? cubes[k] : REFUSED;
        }

        boolean append(int cube) {
            if (count >= MOST_CUBES) {
                return false;
            }
            cubes[count] = cube;
            count++;
            return true;
        }

        void put(int k, int cube) {
            if (k >= 0 && k < count) {
                cubes[k] = cube;
            }
        }

        void takeOut(int k) {
            if (k < 0 || k >= count) {
                return;
            }
            for (int next = k + 1; next < count; next++) {
                cubes[next - 1] = cubes[next];
            }
            count--;
        }

        void copyFrom(CubeList other) {
            count = 0;
            for (int k = 0; k < other.length(); k++) {
                append(other.at(k));
            }
        }
    }
}

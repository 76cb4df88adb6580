/** The bounds of the document's ranges, and ints that lie outside of them. */
final class Edges {
    static final int MIN = Integer.MIN_VALUE;
    static final int MAX = Integer.MAX_VALUE;
    static final int[] NONE = {};

    private Edges() {
    }

    static int lastPoint(int n) {
        return (1 << n) - 1;
    }

    static int lastCube(int n) {
        return (1 << 2 * n) - 1;
    }

    /** The cube in which the point alone is. */
    static int pointCube(int point, int n) {
        int cube = 0;
        for (int i = 0; i < n; i++) {
            cube |= (bit(point, i) == 1 ? 2 : 1) << 2 * i;
        }
        return cube;
    }

    /** The cube in which just those points are whose input i has the value. */
    static int half(int n, int i, int value) {
        return lastCube(n) & ~((value == 1 ? 1 : 2) << 2 * i);
    }

    static int bit(int point, int i) {
        return point >> i & 1;
    }

    /** Some of them would be good numbers if they were cut to fewer bits. */
    static int[] noNumbersOfInputs() {
        return new int[] {MIN, MIN + 4, -9, -8, -4, -1, 0, 9, 10, 16, 32, 33, 36, 40, 260, 65540,
            MAX - 1, MAX};
    }

    static int[] noLists() {
        return new int[] {MIN, MIN + 1, -3, -2, -1, 3, 4, 5, 24, 256, 65536, MAX - 1, MAX};
    }

    static int[] noPoints(int n) {
        int last = lastPoint(n);
        return new int[] {MIN, MIN + 1, MIN + last, -2, -1, last + 1, last + 2, 2 * last + 1,
            last + 257, last + 65537, MAX - 1, MAX};
    }

    static int[] noCubes(int n) {
        int last = lastCube(n);
        return new int[] {MIN, MIN + 1, MIN + last, -2, -1, last + 1, last + 2, 2 * last + 1,
            last + 65537, MAX - 1, MAX};
    }

    /** No k of a list with so many cubes. */
    static int[] noIndexes(int size) {
        return new int[] {MIN, MIN + 1, -size - 1, -1, size, size + 1, size + 24, size + 256,
            size + 65536, MAX - 1, MAX};
    }
}

import java.util.ArrayList;
import java.util.List;

/**
 * The document once more, word for word and slowly: nothing is kept but the lists, so that it
 * shares no short cut with the class under test.
 */
final class Model {
    private int n;
    private final List<List<Integer>> lists = new ArrayList<>();
    /** The last round of the latest minimize whose copy became the COVER. */
    int roundsTaken;

    Model() {
        start(4);
    }

    static Model after(List<Call> calls) {
        Model model = new Model();
        for (Call call : calls) {
            call.answer(model);
        }
        return model;
    }

    boolean start(int inputs) {
        if (inputs < 1 || inputs > 8) {
            return false;
        }
        n = inputs;
        lists.clear();
        for (int list = 0; list < 3; list++) {
            lists.add(new ArrayList<>());
        }
        return true;
    }

    int inputs() {
        return n;
    }

    boolean on(int cube) {
        return add(0, cube);
    }

    boolean dc(int cube) {
        return add(1, cube);
    }

    int size(int list) {
        return isList(list) ? lists.get(list).size() : -1;
    }

    int cube(int list, int k) {
        return k >= 0 && k < size(list) ? lists.get(list).get(k) : -1;
    }

    int literals(int list) {
        return isList(list) ? literalsOf(lists.get(list)) : -1;
    }

    int kind(int point) {
        if (!isPoint(point)) {
            return -1;
        }
        if (inList(lists.get(1), point)) {
            return 2;
        }
        return inList(lists.get(0), point) ? 1 : 0;
    }

    boolean holds(int list, int point) {
        return isList(list) && isPoint(point) && inList(lists.get(list), point);
    }

    int missing(int list) {
        if (!isList(list)) {
            return -1;
        }
        int sum = 0;
        for (int point = 0; isPoint(point); point++) {
            sum += inList(lists.get(list), point) ? 0 : 1;
        }
        return sum;
    }

    boolean tautology(int list) {
        return missing(list) == 0;
    }

    boolean same(int list, int other) {
        if (!isList(list) || !isList(other)) {
            return false;
        }
        for (int point = 0; isPoint(point); point++) {
            if (kind(point) != 2 && holds(list, point) != holds(other, point)) {
                return false;
            }
        }
        return true;
    }

    boolean prime(int list, int k) {
        int cube = cube(list, k);
        if (cube < 0 || isVoid(cube) || touches(cube)) {
            return false;
        }
        for (int i = 0; i < n; i++) {
            if (!isFree(cube, i) && !touches(withFree(cube, i))) {
                return false;
            }
        }
        return true;
    }

    int widen(int cube) {
        return isCube(cube) && !isVoid(cube) && !touches(cube) ? widening(cube, true) : -1;
    }

    int minimize() {
        List<Integer> cover = new ArrayList<>();
        for (int cube : lists.get(0)) {
            if (!isVoid(cube)) {
                cover.add(cube);
            }
        }
        pass(cover, true);
        roundsTaken = 0;
        for (int round = 1; round <= 8; round++) {
            List<Integer> copy = new ArrayList<>(cover);
            narrowing(copy);
            pass(copy, round == 2 || round == 4 || round == 6 || round == 8);
            boolean fewerCubes = copy.size() < cover.size();
            boolean fewerLiterals =
                copy.size() == cover.size() && literalsOf(copy) < literalsOf(cover);
            if (!fewerCubes && !fewerLiterals) {
                break;
            }
            cover = copy;
            roundsTaken = round;
        }
        lists.set(2, cover);
        return cover.size();
    }

    private boolean add(int list, int cube) {
        if (!isCube(cube) || lists.get(list).size() == 24) {
            return false;
        }
        lists.get(list).add(cube);
        lists.get(2).clear();
        return true;
    }

    private boolean isList(int list) {
        return list == 0 || list == 1 || list == 2;
    }

    private boolean isPoint(int point) {
        return point >= 0 && point <= Math.pow(2, n) - 1;
    }

    private boolean isCube(int cube) {
        return cube >= 0 && cube <= Math.pow(4, n) - 1;
    }

    private static boolean bit(int number, int place) {
        return (number >> place) % 2 == 1;
    }

    private boolean inCube(int cube, int point) {
        for (int i = 0; i < n; i++) {
            if (!bit(cube, 2 * i + (bit(point, i) ? 1 : 0))) {
                return false;
            }
        }
        return true;
    }

    private boolean inList(List<Integer> list, int point) {
        for (int cube : list) {
            if (inCube(cube, point)) {
                return true;
            }
        }
        return false;
    }

    private boolean isVoid(int cube) {
        for (int i = 0; i < n; i++) {
            if (!bit(cube, 2 * i) && !bit(cube, 2 * i + 1)) {
                return true;
            }
        }
        return false;
    }

    private boolean isFree(int cube, int i) {
        return bit(cube, 2 * i) && bit(cube, 2 * i + 1);
    }

    private int withFree(int cube, int i) {
        int result = cube;
        result += bit(cube, 2 * i) ? 0 : 1 << 2 * i;
        result += bit(cube, 2 * i + 1) ? 0 : 2 << 2 * i;
        return result;
    }

    private int literalsOf(List<Integer> list) {
        int sum = 0;
        for (int cube : list) {
            for (int i = 0; i < n; i++) {
                sum += isFree(cube, i) ? 0 : 1;
            }
        }
        return sum;
    }

    private boolean touches(int cube) {
        for (int point = 0; isPoint(point); point++) {
            if (inCube(cube, point) && kind(point) == 0) {
                return true;
            }
        }
        return false;
    }

    private int widening(int cube, boolean ascending) {
        int result = cube;
        for (int i = ascending ? 0 : n - 1; i >= 0 && i < n; i += ascending ? 1 : -1) {
            if (!touches(withFree(result, i))) {
                result = withFree(result, i);
            }
        }
        return result;
    }

    private void pass(List<Integer> list, boolean ascending) {
        for (int k = 0; k < list.size(); k++) {
            list.set(k, widening(list.get(k), ascending));
        }
        for (int k = list.size() - 1; k >= 0; k--) {
            if (ownPoints(list, k).isEmpty()) {
                list.remove(k);
            }
        }
    }

    private void narrowing(List<Integer> list) {
        for (int k = 0; k < list.size(); k++) {
            list.set(k, smallestCube(ownPoints(list, k)));
        }
    }

    /** The wanted points that are in cube k and in no other cube of the list. */
    private List<Integer> ownPoints(List<Integer> list, int k) {
        List<Integer> others = new ArrayList<>(list);
        others.remove(k);
        List<Integer> own = new ArrayList<>();
        for (int point = 0; isPoint(point); point++) {
            if (inCube(list.get(k), point) && !inList(others, point) && kind(point) == 1) {
                own.add(point);
            }
        }
        return own;
    }

    private int smallestCube(List<Integer> points) {
        int cube = 0;
        for (int i = 0; i < n; i++) {
            for (int value = 0; value < 2; value++) {
                for (int point : points) {
                    if (bit(point, i) == (value == 1)) {
                        cube += 1 << 2 * i + value;
                        break;
                    }
                }
            }
        }
        return cube;
    }
}

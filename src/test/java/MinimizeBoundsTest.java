/**
 * Each sentence of the document's "Terms" on WIDENING, a PASS, NARROWING and MINIMIZING that names
 * a boundary case, by itself. Most functions are the smallest ones whose COVER would be another if
 * just that sentence were broken.
 */
public final class MinimizeBoundsTest {
    private static final int[] NONE = Edges.NONE;

    private MinimizeBoundsTest() {
    }

    public static void main(String[] args) {
        noMoreThanWereGiven();
        widenedOrAsItIs();
        ascendingAndDescending();
        fromTheFirstAndToTheFirst();
        stillThere();
        noWantedPointInIt();
        onlyWantedPointsCount();
        narrowing();
        cubesThatAreNotVoid();
        roundsOneToEight();
        fewerCubesOrFewerLiterals();
        theRoundsEnd();
        Check.end();
    }

    private static void noMoreThanWereGiven() {
        String sentence = "Terms: \"none can be left out, and there are no more than were given\"";
        int[] parity = new int[24];
        int count = 0;
        for (int point = 0; count < 24; point++) {
            if (Integer.bitCount(point) % 2 == 1) {
                parity[count] = Edges.pointCube(point, 6);
                count++;
            }
        }
        dueCover(sentence, 6, parity, NONE, parity);
        // If the last is equal to the first, 23 of the 24 are left.
        int[] twice = parity.clone();
        twice[23] = twice[0];
        int[] once = new int[23];
        System.arraycopy(parity, 0, once, 0, 23);
        dueCover(sentence, 6, twice, NONE, once);
        dueCover(sentence, 6, NONE, NONE);
        dueCover(sentence, 6, new int[] {parity[0]}, NONE, parity[0]);
    }

    private static void widenedOrAsItIs() {
        String sentence = "Terms: \"made free (both bits 1) if the cube with it free does not touch;"
            + " else it stays as it is\"";
        for (int n = 1; n <= 8; n++) {
            int lastCube = Edges.lastCube(n);
            for (int i = 0; i < n; i++) {
                int[] neighbours = {Edges.pointCube(0, n), Edges.pointCube(1 << i, n)};
                Run run = Run.with(sentence, n, neighbours, NONE);
                int both = neighbours[0] | neighbours[1];
                run.due(Call.widen(neighbours[0]), both);
                run.due(Call.widen(neighbours[1]), both);
                run.due(Call.widen(both), both);
                dueCover(sentence, n, neighbours, NONE, both);
            }
            int alone = Edges.pointCube(Edges.lastPoint(n), n);
            Run none = Run.with(sentence, n, new int[] {alone}, NONE);
            none.due(Call.widen(alone), alone);
            Run all = Run.with(sentence, n, new int[] {alone}, new int[] {lastCube});
            all.due(Call.widen(alone), lastCube);
            all.due(Call.widen(lastCube), lastCube);
        }
    }

    private static void ascendingAndDescending() {
        String sentence = "Terms: \"for its inputs in ascending (or descending) order\"";
        for (int n = 2; n <= 8; n++) {
            for (int i = 0; i < n; i++) {
                for (int j = i + 1; j < n; j++) {
                    int[] corner = {Edges.pointCube(0, n), Edges.pointCube(1 << i, n),
                        Edges.pointCube(1 << j, n)};
                    Run run = Run.with(sentence, n, corner, NONE);
                    run.due(Call.widen(corner[0]), corner[0] | corner[1]);
                    run.due(Call.widen(corner[2]), corner[0] | corner[2]);
                }
            }
        }
        dueCover(sentence + ", the last input in a pass", 2, ints(6, 10), ints(9, 6), 14);
        dueCover(sentence + ", the first input in a pass", 2, ints(10, 14, 9), NONE, 11, 14);
        dueCover(sentence + ", the last input in round 1", 3, ints(29, 37, 46), ints(25), 53, 46);
        dueCover(sentence + ", the first input in round 1", 3, ints(22, 53, 41), ints(42), 23, 45);
        dueCover("Terms: \"a pass with ascending order\"", 2, ints(9, 5, 10), NONE, 11, 13);
        String rounds = "Terms: \"descending order in odd rounds, ascending order in even ones\"";
        dueCover(rounds, 3, ints(21, 37), ints(38, 25), 53);
        dueCover(rounds, 3, ints(21), ints(37, 57, 22), 61);
        dueCover(rounds, 4, ints(86, 117, 249, 165, 182), NONE, 87, 249, 237, 182);
    }

    private static void fromTheFirstAndToTheFirst() {
        String widened = "Terms: \"each cube in turn, from the first, is widened\"";
        dueCover(widened + ", the first", 2, ints(7), ints(11), 15);
        dueCover(widened + ", the last", 2, ints(9), ints(14), 11);
        String dropped = "Terms: \"each cube in turn, from the last to the first, is taken out\"";
        dueCover(dropped, 2, ints(5, 9, 6), NONE, 7, 13);
        dueCover(dropped + ", the last of equal ones goes", 2, ints(9, 6, 9), NONE, 9, 6);
        dueCover(dropped + ", the first goes", 2, ints(5), ints(5));
    }

    private static void stillThere() {
        String sentence = "Terms: \"in another cube of the list that is still there\"";
        dueCover(sentence, 2, ints(9, 10), NONE, 11);
        for (int n = 1; n <= 8; n++) {
            int cube = Edges.pointCube(1, n);
            dueCover(sentence + ", two equal ones", n, ints(cube, cube), NONE, cube);
            int[] full = new int[24];
            for (int k = 0; k < 24; k++) {
                full[k] = cube;
            }
            dueCover(sentence + ", 24 equal ones", n, full, NONE, cube);
        }
    }

    private static void noWantedPointInIt() {
        String sentence = "Terms: \"(so too if no wanted point is in it)\"";
        dueCover(sentence, 2, ints(10), ints(10));
        dueCover(sentence, 2, ints(5, 10), ints(14), 7);
        for (int n = 1; n <= 8; n++) {
            int all = Edges.lastCube(n);
            int[] allButPoint0 = new int[n];
            for (int i = 0; i < n; i++) {
                allButPoint0[i] = Edges.half(n, i, 1);
            }
            dueCover(sentence + ", none at all", n, ints(all), ints(all));
            dueCover(sentence + ", just one", n, ints(all), allButPoint0, all);
            dueCover(sentence + ", just one, in the second", n,
                ints(Edges.pointCube(1, n), Edges.pointCube(0, n)), allButPoint0, all);
        }
    }

    private static void onlyWantedPointsCount() {
        String sentence = "Terms: \"taken out if each wanted point in it is in another cube\"";
        dueCover(sentence + ", not each indifferent one", 2, ints(5), ints(5));
        dueCover(sentence + ", not each indifferent one", 2, ints(13, 6), ints(9), 7);
    }

    private static void narrowing() {
        String sentence = "Terms: \"the smallest cube with all those wanted points in it that are in"
            + " it and in no other cube of the list as that is then\"";
        dueCover(sentence + ", wanted", 3, ints(41, 22, 27), ints(37), 57, 30);
        dueCover(sentence + ", in no other", 3, ints(26, 57, 54, 39), NONE, 30, 57, 39);
        dueCover(sentence + ", as that is then", 3, ints(25, 39, 45, 30), NONE, 27, 39, 45, 30);
        String inTurn = "Terms: \"NARROWING: each cube in turn, from the first\"";
        dueCover(inTurn, 3, ints(23, 57, 43), ints(54), 29, 43);
        dueCover(inTurn + ", the first too", 3, ints(38, 29, 43, 22), NONE, 46, 29, 43, 23);
        dueCover(inTurn + ", the last too", 3, ints(53, 41), ints(58, 21), 45);
        dueCover(inTurn + ", a copy", 3, ints(27, 30, 45, 39), NONE, 57, 30, 39);
    }

    private static void cubesThatAreNotVoid() {
        String sentence = "Terms: \"the COVER becomes the cubes of ON that are not void, in order\"";
        dueCover(sentence, 2, ints(8, 13, 11), NONE, 13, 11);
        dueCover(sentence, 2, ints(4, 9, 5, 6), NONE, 13, 7);
        for (int n = 1; n <= 8; n++) {
            int cube = Edges.half(n, n - 1, 1);
            dueCover(sentence + ", ON is empty", n, NONE, NONE);
            dueCover(sentence + ", ON has void ones alone", n, new int[24], NONE);
            int[] firstNot = new int[24];
            firstNot[0] = cube;
            dueCover(sentence + ", the first is not void", n, firstNot, NONE, cube);
            int[] lastNot = new int[24];
            lastNot[23] = cube;
            dueCover(sentence + ", the last is not void", n, lastNot, NONE, cube);
        }
        // An earlier COVER leaves nothing behind.
        Run run = Run.with(sentence, 4, ints(85, 170, 102), NONE);
        run.due(Call.minimize(), 3);
        run.due(Call.dc(255), true);
        run.due(Call.minimize(), 0);
        run.dueList(2);
    }

    private static void roundsOneToEight() {
        String sentence = "Terms: \"for rounds 1 to 8\"";
        dueRounds(sentence, 0, 2, ints(14), ints(6, 9), 14);
        dueRounds(sentence, 1, 3, ints(23, 58, 53, 41), NONE, 30, 53, 43);
        dueRounds(sentence, 2, 4, ints(86, 174, 150, 249, 122), NONE, 94, 235, 182, 249);
        dueRounds(sentence, 7, 6,
            ints(3750, 3966, 2779, 3995, 2046, 1517, 4006, 3742, 1767, 3002, 3691, 4021), NONE,
            3838, 3966, 2683, 3995, 1471, 4078, 1903, 4021);
        dueRounds(sentence, 8, 6,
            ints(2681, 3995, 1365, 3429, 3494, 1966, 1639, 2485, 1941, 2422, 1621, 2393, 3690, 1686),
            NONE, 2667, 3995, 1695, 1909, 2535, 1966, 1774, 3485, 2422, 3033);
        // Round 9 would still take two literals away: 4058 for 2715.
        dueRounds(sentence, 8, 6,
            ints(1654, 2469, 2805, 1533, 2542, 3670, 4058, 2985, 2029, 2749, 3413, 2667, 1514),
            ints(3546, 2422, 1726, 1786), 2479, 3821, 1533, 1790, 2715, 2749, 2903, 3962, 1531);
    }

    /** The model tells in how many rounds the copy becomes the COVER. */
    private static void dueRounds(String sentence, int rounds, int n, int[] on, int[] dc,
            int... cover) {
        Model model = new Model();
        model.start(n);
        for (int cube : on) {
            model.on(cube);
        }
        for (int cube : dc) {
            model.dc(cube);
        }
        model.minimize();
        Check.due(sentence + ": rounds taken", model.roundsTaken, rounds);
        dueCover(sentence + ", " + rounds + " are taken", n, on, dc, cover);
    }

    private static void fewerCubesOrFewerLiterals() {
        String sentence = "Terms: \"if the copy has fewer cubes than the COVER, or as many and fewer"
            + " literals in all, it becomes the COVER\"";
        dueCover(sentence + ", as many cubes and one literal fewer", 3, ints(37), ints(38, 29, 57),
            61);
        // The first pass leaves 4 cubes with 9 literals, round 1 makes 3 with 10 of them.
        dueCover(sentence + ", fewer cubes though more literals", 6, ints(1375, 1913, 2941, 2021),
            ints(1983, 3029, 1918), 1535, 3961, 3949);
    }

    private static void theRoundsEnd() {
        String sentence = "Terms: \"else the COVER stays and the rounds end\"";
        dueCover(sentence + ", as many literals", 2, ints(14), ints(6, 9), 14);
        dueCover(sentence + ", as many literals", 2, ints(13), ints(6, 9), 13);
        dueCover(sentence + ", more literals", 4, ints(109, 187, 159, 182), NONE,
            109, 187, 159, 190);
        // Another round, in the other order, would find a smaller copy.
        dueCover(sentence + " with round 1", 3, ints(53, 58, 41), ints(21), 53, 58, 43);
        dueCover(sentence + " with round 1", 3, ints(46, 26, 53), ints(21), 46, 58, 53);
        dueCover(sentence + " with round 2", 4, ints(187, 94, 235, 85, 101, 105), NONE,
            187, 250, 235, 87, 117);
    }

    private static int[] ints(int... numbers) {
        return numbers;
    }

    private static void dueCover(String sentence, int n, int[] on, int[] dc, int... cover) {
        Run run = Run.with(sentence, n, on, dc);
        run.due(Call.minimize(), cover.length);
        run.dueList(2, cover);
        run.due(Call.same(0, 2), true);
        run.due(Call.same(2, 0), true);
        for (int k = 0; k < cover.length; k++) {
            run.due(Call.prime(2, k), true);
            Check.due(sentence + ": cube " + k + " of the COVER can be left out",
                canBeLeftOut(n, on, dc, cover, k), false);
        }
        Check.atMost(sentence + ": cubes", cover.length, on.length);
        run.dueList(0, on);
        run.dueList(1, dc);
        // Once more: nothing but ON and DC counts.
        run.due(Call.minimize(), cover.length);
        run.dueList(2, cover);
    }

    private static boolean canBeLeftOut(int n, int[] on, int[] dc, int[] cover, int k) {
        for (int point = 0; point <= Edges.lastPoint(n); point++) {
            boolean wanted = timesHeld(n, on, point) > 0 && timesHeld(n, dc, point) == 0;
            boolean inIt = timesHeld(n, new int[] {cover[k]}, point) > 0;
            if (wanted && inIt && timesHeld(n, cover, point) == 1) {
                return false;
            }
        }
        return true;
    }

    private static int timesHeld(int n, int[] cubes, int point) {
        int times = 0;
        for (int cube : cubes) {
            times += (Edges.pointCube(point, n) & ~cube) == 0 ? 1 : 0;
        }
        return times;
    }
}

/** Compares answers with those that are due, and ends a test with exit code 1 if one differed. */
final class Check {
    /** A fault can show in a million answers; these are enough to find it. */
    private static final int MOST_PRINTED = 200;

    private static int compared = 0;
    private static int wrong = 0;

    private Check() {
    }

    static void due(String what, long got, long want) {
        compared++;
        if (got != want) {
            report(what + ": answered " + got + ", due is " + want);
        }
    }

    static void due(String what, boolean got, boolean want) {
        due(what, got ? 1L : 0L, want ? 1L : 0L);
    }

    static void atMost(String what, long found, long most) {
        compared++;
        if (found > most) {
            report(what + ": " + found + ", at most " + most + " may be");
        }
    }

    private static void report(String line) {
        wrong++;
        if (wrong <= MOST_PRINTED) {
            System.out.println(line);
        } else if (wrong == MOST_PRINTED + 1) {
            System.out.println("more is only counted");
        }
    }

    static int wrongSoFar() {
        return wrong;
    }

    /** A test that compared nothing has failed too. */
    static void end() {
        System.out.println(compared + " answers compared, " + wrong + " not as due");
        if (wrong != 0 || compared == 0) {
            System.exit(1);
        }
    }
}

/** One call with its arguments, for the class and for the model; a boolean counts 1 or 0. */
record Call(Name name, int first, int second) {
    enum Name {
        START, INPUTS, ON, DC, SIZE, CUBE, LITERALS, KIND, HOLDS, MISSING, TAUTOLOGY, SAME, PRIME,
        WIDEN, MINIMIZE
    }

    static Call start(int n) {
        return new Call(Name.START, n, 0);
    }

    static Call inputs() {
        return new Call(Name.INPUTS, 0, 0);
    }

    static Call on(int cube) {
        return new Call(Name.ON, cube, 0);
    }

    static Call dc(int cube) {
        return new Call(Name.DC, cube, 0);
    }

    /** To ON (0) or DC (1). */
    static Call adding(int list, int cube) {
        return list == 0 ? on(cube) : dc(cube);
    }

    static Call size(int list) {
        return new Call(Name.SIZE, list, 0);
    }

    static Call cube(int list, int k) {
        return new Call(Name.CUBE, list, k);
    }

    static Call literals(int list) {
        return new Call(Name.LITERALS, list, 0);
    }

    static Call kind(int point) {
        return new Call(Name.KIND, point, 0);
    }

    static Call holds(int list, int point) {
        return new Call(Name.HOLDS, list, point);
    }

    static Call missing(int list) {
        return new Call(Name.MISSING, list, 0);
    }

    static Call tautology(int list) {
        return new Call(Name.TAUTOLOGY, list, 0);
    }

    static Call same(int list, int other) {
        return new Call(Name.SAME, list, other);
    }

    static Call prime(int list, int k) {
        return new Call(Name.PRIME, list, k);
    }

    static Call widen(int cube) {
        return new Call(Name.WIDEN, cube, 0);
    }

    static Call minimize() {
        return new Call(Name.MINIMIZE, 0, 0);
    }

    long answer(CubeMin x) {
        return switch (name) {
            case START -> number(x.start(first));
            case INPUTS -> x.inputs();
            case ON -> number(x.on(first));
            case DC -> number(x.dc(first));
            case SIZE -> x.size(first);
            case CUBE -> x.cube(first, second);
            case LITERALS -> x.literals(first);
            case KIND -> x.kind(first);
            case HOLDS -> number(x.holds(first, second));
            case MISSING -> x.missing(first);
            case TAUTOLOGY -> number(x.tautology(first));
            case SAME -> number(x.same(first, second));
            case PRIME -> number(x.prime(first, second));
            case WIDEN -> x.widen(first);
            case MINIMIZE -> x.minimize();
        };
    }

    long answer(Model x) {
        return switch (name) {
            case START -> number(x.start(first));
            case INPUTS -> x.inputs();
            case ON -> number(x.on(first));
            case DC -> number(x.dc(first));
            case SIZE -> x.size(first);
            case CUBE -> x.cube(first, second);
            case LITERALS -> x.literals(first);
            case KIND -> x.kind(first);
            case HOLDS -> number(x.holds(first, second));
            case MISSING -> x.missing(first);
            case TAUTOLOGY -> number(x.tautology(first));
            case SAME -> number(x.same(first, second));
            case PRIME -> number(x.prime(first, second));
            case WIDEN -> x.widen(first);
            case MINIMIZE -> x.minimize();
        };
    }

    /** The answer that says that the call is refused. */
    long refusal() {
        return switch (name) {
            case START, ON, DC, HOLDS, TAUTOLOGY, SAME, PRIME -> 0;
            default -> -1;
        };
    }

    private static long number(boolean answer) {
        return answer ? 1 : 0;
    }

    @Override
    public String toString() {
        String arguments = switch (name) {
            case INPUTS, MINIMIZE -> "";
            case CUBE, HOLDS, SAME, PRIME -> first + ", " + second;
            default -> "" + first;
        };
        return name.toString().toLowerCase() + "(" + arguments + ")";
    }
}

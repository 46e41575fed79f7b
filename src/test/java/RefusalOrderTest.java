import java.util.List;
import java.util.function.Supplier;

/** Where more than one refusal fits a call, the one that the promise's sentence names first is answered. */
public final class RefusalOrderTest {
    private static final int BAD_FACTOR = -1;
    private static final int NONE = -3;
    private static final int LEAST = Integer.MIN_VALUE;
    private static final int GREATEST = Integer.MAX_VALUE;
    private static final int[] BAD_FACTORS = {LEAST, -10, 10, GREATEST};
    private static final int[] BAD_LIMITS = {LEAST, -1001, 1001, GREATEST};
    private static final int[] BAD_WEIGHTS = {LEAST, -101, 101, GREATEST};

    private static final Check check = new Check();

    public static void main(String[] args) {
        check.test("Promise 2: a out of range before FULL", RefusalOrderTest::badAWhenFull);
        check.test("Promise 2: b out of range before FULL", RefusalOrderTest::badBWhenFull);
        check.test("Promise 2: a and b both 0 before FULL", RefusalOrderTest::bothZeroWhenFull);
        check.test("Promise 2: c out of range before FULL", RefusalOrderTest::badLimitWhenFull);
        check.test("Promise 4: no such condition before c out of range", RefusalOrderTest::noneBeforeBadLimit);
        check.test("Promise 4: no condition at all before c out of range", RefusalOrderTest::emptyBeforeBadLimit);
        check.test("Promise 11: p out of range before no lattice points", RefusalOrderTest::bestBadP);
        check.test("Promise 11: q out of range before no lattice points", RefusalOrderTest::bestBadQ);
        check.test("Promise 12: p out of range before no lattice points", RefusalOrderTest::bestCornerBadP);
        check.test("Promise 12: q out of range before no lattice points", RefusalOrderTest::bestCornerBadQ);
        check.end();
    }

    private static void badAWhenFull() {
        for (int a : BAD_FACTORS) {
            refusedWhenFull(a, 1, 0);
        }
    }

    private static void badBWhenFull() {
        for (int b : BAD_FACTORS) {
            refusedWhenFull(1, b, 0);
        }
    }

    private static void bothZeroWhenFull() {
        for (int c : new int[] {-1000, 0, 1000}) {
            refusedWhenFull(0, 0, c);
        }
    }

    private static void badLimitWhenFull() {
        for (int c : BAD_LIMITS) {
            refusedWhenFull(1, 1, c);
        }
    }

    private static void refusedWhenFull(int a, int b, int c) {
        String name = "condition(" + a + ", " + b + ", " + c + ")";
        Answers.unchanged(check, name, Regions::octagon, hull -> check.due(name, hull.condition(a, b, c), BAD_FACTOR));
        check.due("a good one: condition(1, 1, 0)", Regions.octagon().condition(1, 1, 0), IntegerHull.FULL);
    }

    private static void noneBeforeBadLimit() {
        for (int i : new int[] {LEAST, -1, 1, GREATEST}) {
            refusedShifts(() -> Regions.triangle(3), i);
        }
        for (int i : new int[] {LEAST, -1, 8, GREATEST}) {
            refusedShifts(Regions::octagon, i);
        }
    }

    private static void emptyBeforeBadLimit() {
        for (int i : new int[] {LEAST, -1, 0, 7, 8, GREATEST}) {
            refusedShifts(Regions::square, i);
        }
    }

    private static void refusedShifts(Supplier<IntegerHull> state, int i) {
        for (int c : BAD_LIMITS) {
            String name = "shift(" + i + ", " + c + ")";
            Answers.unchanged(check, name, state, hull -> check.due(name, hull.shift(i, c), NONE));
        }
    }

    /** One without lattice points by a condition, one by whole numbers alone, one with eight conditions. */
    private static List<Supplier<IntegerHull>> withoutPoints() {
        return List.of(Regions::withoutPoints, () -> Regions.line(2, 0, 1), () -> {
            IntegerHull hull = Regions.octagon();
            hull.shift(0, 9);
            return hull;
        });
    }

    private static void bestBadP() {
        for (Supplier<IntegerHull> state : withoutPoints()) {
            for (int p : BAD_WEIGHTS) {
                String name = "best(" + p + ", 1)";
                Answers.unchanged(check, name, state, hull -> check.due(name, hull.best(p, 1), BAD_FACTOR));
            }
            check.due("best(1, 1)", state.get().best(1, 1), NONE);
        }
    }

    private static void bestBadQ() {
        for (Supplier<IntegerHull> state : withoutPoints()) {
            for (int q : BAD_WEIGHTS) {
                String name = "best(1, " + q + ")";
                Answers.unchanged(check, name, state, hull -> check.due(name, hull.best(1, q), BAD_FACTOR));
            }
            check.due("best(1, 1)", state.get().best(1, 1), NONE);
        }
    }

    private static void bestCornerBadP() {
        for (Supplier<IntegerHull> state : withoutPoints()) {
            for (int p : BAD_WEIGHTS) {
                String name = "bestCorner(" + p + ", 1)";
                Answers.unchanged(check, name, state, hull -> check.due(name, hull.bestCorner(p, 1), BAD_FACTOR));
            }
            check.due("bestCorner(1, 1)", state.get().bestCorner(1, 1), NONE);
        }
    }

    private static void bestCornerBadQ() {
        for (Supplier<IntegerHull> state : withoutPoints()) {
            for (int q : BAD_WEIGHTS) {
                String name = "bestCorner(1, " + q + ")";
                Answers.unchanged(check, name, state, hull -> check.due(name, hull.bestCorner(1, q), BAD_FACTOR));
            }
            check.due("bestCorner(1, 1)", state.get().bestCorner(1, 1), NONE);
        }
    }
}

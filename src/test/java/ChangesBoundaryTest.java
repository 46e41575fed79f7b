import java.util.List;
import java.util.function.Supplier;

/** The boundary cases that promises 1 to 4 name: a test for each. */
public final class ChangesBoundaryTest {
    private static final int BAD_FACTOR = -1;
    private static final int FULL = -2;
    private static final int NONE = -3;
    private static final int LEAST = Integer.MIN_VALUE;
    private static final int GREATEST = Integer.MAX_VALUE;
    // Out of range as they stand, in range if only their last 8 or 16 bits were looked at.
    private static final int[] WRAPPING = {256 + 1, -256 + 1, 65536 + 1, -65536 + 1, LEAST + 1, 1 << 30};

    private static final Check check = new Check();

    public static void main(String[] args) {
        check.test("Promise 1: a new object has no conditions", ChangesBoundaryTest::newHasNone);
        check.test("Promise 1: a new object beside a full one has no conditions", ChangesBoundaryTest::newBesideFull);
        check.test("Promise 2: a from -9", () -> factorBound(true, -9, -10));
        check.test("Promise 2: a to 9", () -> factorBound(true, 9, 10));
        check.test("Promise 2: a of any int", () -> factorOfAnyInt(true));
        check.test("Promise 2: b from -9", () -> factorBound(false, -9, -10));
        check.test("Promise 2: b to 9", () -> factorBound(false, 9, 10));
        check.test("Promise 2: b of any int", () -> factorOfAnyInt(false));
        check.test("Promise 2: a and b both 0", ChangesBoundaryTest::bothZero);
        check.test("Promise 2: one of a and b is 0", ChangesBoundaryTest::oneZero);
        check.test("Promise 2: c from -1000", () -> limitBound(-1000, -1001));
        check.test("Promise 2: c to 1000", () -> limitBound(1000, 1001));
        check.test("Promise 2: c of any int", ChangesBoundaryTest::limitOfAnyInt);
        check.test("Promise 2: the eighth is taken, the ninth is refused", ChangesBoundaryTest::ninthIsRefused);
        check.test("Promise 2: room again after a drop", ChangesBoundaryTest::roomAfterDrop);
        check.test("Promise 2: BAD_FACTOR changes nothing", ChangesBoundaryTest::badFactorChangesNothing);
        check.test("Promise 2: FULL changes nothing", ChangesBoundaryTest::fullChangesNothing);
        check.test("Promise 3: there is none in a new object", ChangesBoundaryTest::dropWithNone);
        check.test("Promise 3: there is none after the last drop", ChangesBoundaryTest::dropAfterTheLast);
        check.test("Promise 3: from eight to none", ChangesBoundaryTest::dropFromEight);
        check.test("Promise 3: a refused drop changes nothing", ChangesBoundaryTest::refusedDropChangesNothing);
        check.test("Promise 4: no such condition below 0", ChangesBoundaryTest::shiftBelow);
        check.test("Promise 4: no such condition above the last", ChangesBoundaryTest::shiftAbove);
        check.test("Promise 4: i of any int", ChangesBoundaryTest::shiftOfAnyInt);
        check.test("Promise 4: no condition at all", ChangesBoundaryTest::shiftWithNone);
        check.test("Promise 4: a dropped condition is no such condition", ChangesBoundaryTest::shiftDropped);
        check.test("Promise 4: c from -1000", () -> shiftLimitBound(-1000, -1001));
        check.test("Promise 4: c to 1000", () -> shiftLimitBound(1000, 1001));
        check.test("Promise 4: c of any int", ChangesBoundaryTest::shiftLimitOfAnyInt);
        check.test("Promise 4: the old c, whatever it is", ChangesBoundaryTest::shiftAnswersOld);
        check.test("Promise 4: NONE changes nothing", ChangesBoundaryTest::shiftNoneChangesNothing);
        check.test("Promise 4: BAD_FACTOR changes nothing", ChangesBoundaryTest::shiftBadFactorChangesNothing);
        check.end();
    }

    private static void newHasNone() {
        check.due("drop()", new IntegerHull().drop(), NONE);
        check.due("shift(0, 0)", new IntegerHull().shift(0, 0), NONE);
        check.due("points()", new IntegerHull().points(), 1681);
        check.due("corners()", new IntegerHull().corners(), 4);
        check.due("condition(1, 0, 0)", new IntegerHull().condition(1, 0, 0), 1);
    }

    private static void newBesideFull() {
        IntegerHull full = Regions.octagon();
        IntegerHull hull = new IntegerHull();
        check.due("points()", hull.points(), 1681);
        check.due("shift(0, 0)", hull.shift(0, 0), NONE);
        check.due("drop()", hull.drop(), NONE);
        check.due("condition(1, 0, 0)", hull.condition(1, 0, 0), 1);
        check.due("the full one: condition(1, 0, 0)", full.condition(1, 0, 0), FULL);
        check.due("the full one: points()", full.points(), 381);
    }

    /** Beside each number for the other factor, the least, the greatest and 0 among them. */
    private static void factorBound(boolean first, int in, int out) {
        for (int other : new int[] {-9, -1, 0, 1, 9}) {
            IntegerHull hull = new IntegerHull();
            check.due(conditionCall(first, out, other, 5), conditionOf(hull, first, out, other, 5), BAD_FACTOR);
            check.due(conditionCall(first, in, other, 5), conditionOf(hull, first, in, other, 5), 1);
            check.due(conditionCall(first, out, other, 5), conditionOf(hull, first, out, other, 5), BAD_FACTOR);
            check.due("drop()", hull.drop(), 0);
            check.due("points()", hull.points(), 1681);
        }
    }

    private static void factorOfAnyInt(boolean first) {
        IntegerHull hull = new IntegerHull();
        for (int bad : badInts(10)) {
            check.due(conditionCall(first, bad, 1, 5), conditionOf(hull, first, bad, 1, 5), BAD_FACTOR);
            check.due(conditionCall(first, bad, 0, 5), conditionOf(hull, first, bad, 0, 5), BAD_FACTOR);
            check.due(conditionCall(first, bad, bad, 5), conditionOf(hull, first, bad, bad, 5), BAD_FACTOR);
        }
        check.due("points()", hull.points(), 1681);
        check.due("drop()", hull.drop(), NONE);
    }

    private static int conditionOf(IntegerHull hull, boolean first, int factor, int other, int c) {
        return first ? hull.condition(factor, other, c) : hull.condition(other, factor, c);
    }

    private static String conditionCall(boolean first, int factor, int other, int c) {
        return "condition(" + (first ? factor + ", " + other : other + ", " + factor) + ", " + c + ")";
    }

    /** Numbers beyond a bound on either side, up to the least and the greatest int. */
    private static int[] badInts(int beyond) {
        int[] bad = new int[WRAPPING.length + 6];
        System.arraycopy(WRAPPING, 0, bad, 0, WRAPPING.length);
        int[] more = {-beyond, beyond, LEAST, GREATEST, LEAST + beyond, GREATEST - beyond};
        System.arraycopy(more, 0, bad, WRAPPING.length, more.length);
        return bad;
    }

    private static void bothZero() {
        IntegerHull hull = new IntegerHull();
        for (int c : new int[] {-1000, -1, 0, 1, 1000}) {
            check.due("condition(0, 0, " + c + ")", hull.condition(0, 0, c), BAD_FACTOR);
        }
        check.due("points()", hull.points(), 1681);
        check.due("drop()", hull.drop(), NONE);
    }

    private static void oneZero() {
        IntegerHull hull = new IntegerHull();
        check.due("condition(0, 1, 30)", hull.condition(0, 1, 30), 1);
        check.due("condition(1, 0, 30)", hull.condition(1, 0, 30), 2);
        check.due("condition(0, -1, -10)", hull.condition(0, -1, -10), 3);
        check.due("condition(-1, 0, -10)", hull.condition(-1, 0, -10), 4);
        check.due("points()", hull.points(), 21 * 21);
    }

    private static void limitBound(int in, int out) {
        IntegerHull hull = new IntegerHull();
        check.due("condition(1, 1, " + out + ")", hull.condition(1, 1, out), BAD_FACTOR);
        check.due("points()", hull.points(), 1681);
        check.due("condition(1, 1, " + in + ")", hull.condition(1, 1, in), 1);
        check.due("condition(1, 1, " + out + ")", hull.condition(1, 1, out), BAD_FACTOR);
        check.due("shift(0, 7)", hull.shift(0, 7), in);
        check.due("drop()", hull.drop(), 0);
    }

    private static void limitOfAnyInt() {
        IntegerHull hull = new IntegerHull();
        for (int bad : badLimits()) {
            check.due("condition(1, 1, " + bad + ")", hull.condition(1, 1, bad), BAD_FACTOR);
        }
        check.due("points()", hull.points(), 1681);
        check.due("drop()", hull.drop(), NONE);
    }

    private static int[] badLimits() {
        return new int[] {-1001, 1001, 65536 + 1, -65536 + 1, 1 << 30, LEAST, LEAST + 1, LEAST + 1000, GREATEST,
            GREATEST - 1000};
    }

    private static void ninthIsRefused() {
        IntegerHull hull = new IntegerHull();
        for (int n = 1; n <= 8; n++) {
            check.due("condition number " + n, hull.condition(1, 0, 40 - n), n);
            check.due("with " + n + ": points()", hull.points(), (41 - n) * 41);
        }
        check.due("the ninth", hull.condition(1, 0, 0), FULL);
        check.due("the ninth once more", hull.condition(1, 0, 0), FULL);
        check.due("points()", hull.points(), 33 * 41);
        check.due("shift(8, 0)", hull.shift(8, 0), NONE);
        check.due("drop()", hull.drop(), 7);
    }

    private static void roomAfterDrop() {
        IntegerHull hull = Regions.octagon();
        check.due("condition(1, 0, 20)", hull.condition(1, 0, 20), FULL);
        check.due("drop()", hull.drop(), 7);
        check.due("condition(1, 0, 10)", hull.condition(1, 0, 10), 8);
        check.due("points()", hull.points(), 16);
        check.due("condition(1, 0, 10) once more", hull.condition(1, 0, 10), FULL);
    }

    private static List<Supplier<IntegerHull>> states() {
        return List.of(Regions::square, Regions::withoutPoints, () -> Regions.triangle(3),
                () -> Regions.box(3, 5, 10, 13), Regions::octagon);
    }

    private static void badFactorChangesNothing() {
        int[][] refused = {{10, 1, 20}, {-10, 1, 20}, {1, 10, 20}, {1, -10, 20}, {0, 0, 20}, {0, 0, -1}, {1, 1, 1001},
            {1, 1, -1001}, {LEAST, LEAST, LEAST}, {GREATEST, GREATEST, GREATEST}};
        for (Supplier<IntegerHull> state : states()) {
            for (int[] call : refused) {
                String name = "condition(" + call[0] + ", " + call[1] + ", " + call[2] + ")";
                Answers.unchanged(check, name, state,
                        hull -> check.due(name, hull.condition(call[0], call[1], call[2]), BAD_FACTOR));
            }
        }
    }

    private static void fullChangesNothing() {
        int[][] refused = {{1, 0, 20}, {0, 1, -1000}, {-9, -9, -1000}, {9, 9, 1000}};
        for (int[] call : refused) {
            String name = "condition(" + call[0] + ", " + call[1] + ", " + call[2] + ")";
            Answers.unchanged(check, name, Regions::octagon,
                    hull -> check.due(name, hull.condition(call[0], call[1], call[2]), FULL));
        }
    }

    private static void dropWithNone() {
        IntegerHull hull = new IntegerHull();
        check.due("drop()", hull.drop(), NONE);
        check.due("drop() once more", hull.drop(), NONE);
        check.due("points()", hull.points(), 1681);
        check.due("condition(1, 0, 0)", hull.condition(1, 0, 0), 1);
        check.due("drop() with one", hull.drop(), 0);
    }

    private static void dropAfterTheLast() {
        IntegerHull hull = Regions.triangle(3);
        check.due("drop() of the only one", hull.drop(), 0);
        check.due("drop()", hull.drop(), NONE);
        check.due("points()", hull.points(), 1681);
        check.due("condition(1, 0, 0)", hull.condition(1, 0, 0), 1);
        check.due("points() with one", hull.points(), 41);
    }

    private static void dropFromEight() {
        IntegerHull hull = new IntegerHull();
        for (int n = 1; n <= 8; n++) {
            hull.condition(1, 0, 40 - n);
        }
        for (int left = 7; left >= 0; left--) {
            check.due("drop() to " + left, hull.drop(), left);
            check.due("with " + left + ": points()", hull.points(), (41 - left) * 41);
        }
        check.due("drop() after the last", hull.drop(), NONE);
    }

    private static void refusedDropChangesNothing() {
        Answers.unchanged(check, "drop()", Regions::square, hull -> check.due("drop()", hull.drop(), NONE));
        Answers.unchanged(check, "drop() after the last", () -> emptied(Regions.octagon()),
                hull -> check.due("drop() after the last", hull.drop(), NONE));
    }

    private static IntegerHull emptied(IntegerHull hull) {
        for (int n = 0; n < 8; n++) {
            hull.drop();
        }
        return hull;
    }

    private static void shiftBelow() {
        IntegerHull hull = Regions.box(3, 5, 10, 13);
        check.due("shift(-1, 0)", hull.shift(-1, 0), NONE);
        check.due("points()", hull.points(), 12);
        check.due("shift(0, 4)", hull.shift(0, 4), 5);
        check.due("points() after shift(0, 4)", hull.points(), 8);
    }

    private static void shiftAbove() {
        for (int count = 1; count <= 8; count++) {
            IntegerHull hull = new IntegerHull();
            for (int n = 0; n < count; n++) {
                hull.condition(1, 0, 30 + n);
            }
            check.due(count + " conditions: shift(" + count + ", 0)", hull.shift(count, 0), NONE);
            check.due(count + " conditions: points()", hull.points(), 31 * 41);
            check.due(count + " conditions: shift(" + (count - 1) + ", 9)", hull.shift(count - 1, 9), 29 + count);
            check.due(count + " conditions, shifted: points()", hull.points(), 410);
        }
    }

    private static void shiftOfAnyInt() {
        for (IntegerHull hull : List.of(Regions.triangle(3), Regions.octagon())) {
            int points = hull.points();
            for (int i : new int[] {LEAST, LEAST + 1, -65536, -256, -8, 8, 256, 65536, 1 << 30, GREATEST}) {
                check.due("shift(" + i + ", 0)", hull.shift(i, 0), NONE);
            }
            check.due("points()", hull.points(), points);
        }
    }

    private static void shiftWithNone() {
        IntegerHull hull = new IntegerHull();
        for (int i : new int[] {LEAST, -1, 0, 1, 7, 8, GREATEST}) {
            check.due("shift(" + i + ", 0)", hull.shift(i, 0), NONE);
        }
        check.due("points()", hull.points(), 1681);
    }

    private static void shiftDropped() {
        IntegerHull hull = Regions.box(3, 5, 10, 13);
        hull.drop();
        check.due("shift(3, 0)", hull.shift(3, 0), NONE);
        check.due("shift(2, 9)", hull.shift(2, 9), 13);
        hull.condition(0, -1, -2);
        check.due("taken anew: shift(3, -3)", hull.shift(3, -3), -2);
        check.due("points()", hull.points(), 3 * 7);
    }

    private static void shiftLimitBound(int in, int out) {
        IntegerHull hull = Regions.triangle(3);
        check.due("shift(0, " + out + ")", hull.shift(0, out), BAD_FACTOR);
        check.due("points()", hull.points(), 10);
        check.due("shift(0, " + in + ")", hull.shift(0, in), 3);
        check.due("points() after shift(0, " + in + ")", hull.points(), in < 0 ? 0 : 1681);
        check.due("shift(0, " + out + ")", hull.shift(0, out), BAD_FACTOR);
        check.due("shift(0, 3)", hull.shift(0, 3), in);
        check.due("points() after shift(0, 3)", hull.points(), 10);
    }

    private static void shiftLimitOfAnyInt() {
        IntegerHull hull = Regions.triangle(3);
        for (int bad : badLimits()) {
            check.due("shift(0, " + bad + ")", hull.shift(0, bad), BAD_FACTOR);
        }
        check.due("points()", hull.points(), 10);
        check.due("shift(0, 4)", hull.shift(0, 4), 3);
    }

    /** Among them the numbers of the three constants, which are a c here. */
    private static void shiftAnswersOld() {
        IntegerHull hull = Regions.triangle(3);
        int old = 3;
        for (int c : new int[] {-1000, -3, -2, -1, 0, 1, 1000, 1000, 4, 4}) {
            check.due("shift(0, " + c + ")", hull.shift(0, c), old);
            old = c;
        }
        check.due("points()", hull.points(), 15);
    }

    private static void shiftNoneChangesNothing() {
        for (Supplier<IntegerHull> state : states()) {
            for (int i : new int[] {LEAST, -1, 8, GREATEST}) {
                String name = "shift(" + i + ", 0)";
                Answers.unchanged(check, name, state, hull -> check.due(name, hull.shift(i, 0), NONE));
            }
        }
        Answers.unchanged(check, "shift(0, 0)", Regions::square,
                hull -> check.due("shift(0, 0)", hull.shift(0, 0), NONE));
        Answers.unchanged(check, "shift(4, 0)", () -> Regions.box(3, 5, 10, 13),
                hull -> check.due("shift(4, 0)", hull.shift(4, 0), NONE));
    }

    private static void shiftBadFactorChangesNothing() {
        for (int c : new int[] {LEAST, -1001, 1001, GREATEST}) {
            for (int i = 0; i < 8; i++) {
                int number = i;
                String name = "shift(" + i + ", " + c + ")";
                Answers.unchanged(check, name, Regions::octagon,
                        hull -> check.due(name, hull.shift(number, c), BAD_FACTOR));
            }
        }
    }
}

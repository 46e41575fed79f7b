import java.util.List;
import java.util.function.Consumer;
import java.util.function.Supplier;
import java.util.function.ToIntFunction;

/** The boundary cases that "What it is" and "Terms" name: a test for each. */
public final class TermsBoundaryTest {
    private static final int LEAST = Integer.MIN_VALUE;
    private static final int GREATEST = Integer.MAX_VALUE;
    private static final int MOST_CALLS = 512;

    private static final Check check = new Check();

    public static void main(String[] args) {
        check.test("What it is: 512 calls of condition and drop", TermsBoundaryTest::callsOfConditionAndDrop);
        check.test("What it is: 512 calls of drop and condition with eight", TermsBoundaryTest::callsAtTheFullEnd);
        check.test("What it is: 512 calls of shift", TermsBoundaryTest::callsOfShift);
        check.test("What it is: 512 refused calls of one kind", TermsBoundaryTest::callsRefused);
        check.test("What it is: 512 asking calls of one kind", TermsBoundaryTest::callsThatAsk);
        check.test("What it is: 512 calls, the asking ones in turn", TermsBoundaryTest::callsInTurn);
        check.test("Terms: 0 <= x", TermsBoundaryTest::leastX);
        check.test("Terms: x <= 40", TermsBoundaryTest::greatestX);
        check.test("Terms: 0 <= y", TermsBoundaryTest::leastY);
        check.test("Terms: y <= 40", TermsBoundaryTest::greatestY);
        check.test("Terms: the bounds of the square stand beside wider conditions", TermsBoundaryTest::widerConditions);
        check.test("Terms: a * x + b * y = c fulfils the condition", TermsBoundaryTest::equalFulfils);
        check.test("Terms: a and b as great and as small as may be", TermsBoundaryTest::extremeFactors);
        check.test("Terms: a = 0 or b = 0, not both", TermsBoundaryTest::oneFactorZero);
        check.test("Terms: c as great and as small as may be", TermsBoundaryTest::extremeLimits);
        check.test("Terms: each of eight conditions counts", TermsBoundaryTest::eightConditions);
        check.test("Terms: a region with points, but no whole ones", TermsBoundaryTest::noWholePoint);
        check.test("Terms: the hull of the whole points, not the region", TermsBoundaryTest::hullOfWholePoints);
        check.test("Terms: a point strictly between two is no corner", TermsBoundaryTest::betweenIsNoCorner);
        check.test("Terms: a point inside others is no corner", TermsBoundaryTest::insideIsNoCorner);
        check.test("Terms: a point barely outside the others' hull is a corner", TermsBoundaryTest::barelyACorner);
        check.test("Terms: corner 0 has the least x", TermsBoundaryTest::firstHasLeastX);
        check.test("Terms: corner 0 has, of equal x, the least y", TermsBoundaryTest::firstHasLeastY);
        check.test("Terms: corners are numbered counterclockwise", TermsBoundaryTest::counterclockwise);
        check.test("Terms: points changes nothing", () -> changesNothing("points()", hull -> hull.points()));
        check.test("Terms: has changes nothing", TermsBoundaryTest::hasChangesNothing);
        check.test("Terms: corners changes nothing", () -> changesNothing("corners()", hull -> hull.corners()));
        check.test("Terms: corner changes nothing", TermsBoundaryTest::cornerChangesNothing);
        check.test("Terms: area2 changes nothing", () -> changesNothing("area2()", hull -> hull.area2()));
        check.test("Terms: border changes nothing", () -> changesNothing("border()", hull -> hull.border()));
        check.test("Terms: best changes nothing", TermsBoundaryTest::bestChangesNothing);
        check.test("Terms: bestCorner changes nothing", TermsBoundaryTest::bestCornerChangesNothing);
        check.test("Terms: column changes nothing", TermsBoundaryTest::columnChangesNothing);
        check.end();
    }

    private static void callsOfConditionAndDrop() {
        IntegerHull hull = new IntegerHull();
        for (int call = 1; call < MOST_CALLS; call += 2) {
            check.due("call " + call + ": condition(1, 0, 9)", hull.condition(1, 0, 9), 1);
            check.due("call " + (call + 1) + ": drop()", hull.drop(), 0);
        }
    }

    private static void callsAtTheFullEnd() {
        IntegerHull hull = Regions.octagon();
        for (int call = 9; call < MOST_CALLS - 1; call += 2) {
            check.due("call " + call + ": drop()", hull.drop(), 7);
            check.due("call " + (call + 1) + ": condition(-1, 1, 15)", hull.condition(-1, 1, 15), 8);
        }
        check.due("call 511: condition(-1, 1, 15)", hull.condition(-1, 1, 15), IntegerHull.FULL);
        check.due("call 512: points()", hull.points(), 381);
    }

    private static void callsOfShift() {
        IntegerHull hull = Regions.of(new int[] {1, 0, 2});
        for (int call = 2; call < MOST_CALLS; call++) {
            check.due("call " + call + ": shift(0, " + (call + 1) + ")", hull.shift(0, call + 1), call);
        }
        check.due("call 512: shift(0, 4)", hull.shift(0, 4), MOST_CALLS);

        IntegerHull shrunk = Regions.of(new int[] {1, 0, 2});
        for (int call = 2; call < MOST_CALLS; call++) {
            shrunk.shift(0, call % 40);
        }
        check.due("call 512, after shift(0, 31): points()", shrunk.points(), 32 * 41);
    }

    private static void callsRefused() {
        callsOf("condition(0, 0, 0)", hull -> hull.condition(0, 0, 0), IntegerHull.BAD_FACTOR);
        callsOf("drop()", hull -> hull.drop(), IntegerHull.NONE);
        callsOf("shift(0, 0)", hull -> hull.shift(0, 0), IntegerHull.NONE);
        callsOf("best(101, 0)", hull -> hull.best(101, 0), IntegerHull.BAD_FACTOR);
        callsOf("bestCorner(101, 0)", hull -> hull.bestCorner(101, 0), IntegerHull.BAD_FACTOR);
        callsOf("corner(4)", hull -> hull.corner(4), IntegerHull.NONE);
    }

    private static void callsThatAsk() {
        callsOf("points()", hull -> hull.points(), 1681);
        callsOf("has(40, 40)", hull -> hull.has(40, 40) ? 1 : 0, 1);
        callsOf("corners()", hull -> hull.corners(), 4);
        callsOf("corner(3)", hull -> hull.corner(3), Regions.at(0, 40));
        callsOf("area2()", hull -> hull.area2(), 3200);
        callsOf("border()", hull -> hull.border(), 160);
        callsOf("best(1, 1)", hull -> hull.best(1, 1), 80);
        callsOf("bestCorner(1, 1)", hull -> hull.bestCorner(1, 1), 2);
        callsOf("column(40)", hull -> hull.column(40), 41);
    }

    /** The same call 512 times on a new object, with the same answer each time. */
    private static void callsOf(String name, ToIntFunction<IntegerHull> calling, int due) {
        IntegerHull hull = new IntegerHull();
        for (int call = 1; call <= MOST_CALLS; call++) {
            check.due("call " + call + ": " + name, calling.applyAsInt(hull), due);
        }
    }

    private static void callsInTurn() {
        IntegerHull hull = Regions.octagon();
        // Eight calls of condition, then 56 rounds of nine.
        for (int round = 0; round < 56; round++) {
            check.due("round " + round + ": points()", hull.points(), 381);
            check.due("round " + round + ": has(10, 15)", hull.has(10, 15), true);
            check.due("round " + round + ": corners()", hull.corners(), 8);
            check.due("round " + round + ": corner(7)", hull.corner(7), Regions.at(10, 25));
            check.due("round " + round + ": area2()", hull.area2(), 700);
            check.due("round " + round + ": border()", hull.border(), 60);
            check.due("round " + round + ": best(1, 1)", hull.best(1, 1), 55);
            check.due("round " + round + ": bestCorner(1, 1)", hull.bestCorner(1, 1), 4);
            check.due("round " + round + ": column(10)", hull.column(10), 11);
        }
    }

    private static void leastX() {
        IntegerHull hull = new IntegerHull();
        check.due("has(0, 20)", hull.has(0, 20), true);
        check.due("has(-1, 20)", hull.has(-1, 20), false);
        check.due("best(-1, 0)", hull.best(-1, 0), 0);
        hull.condition(1, 0, 0);
        check.due("x <= 0: points()", hull.points(), 41);
        hull.shift(0, -1);
        check.due("x <= -1: points()", hull.points(), 0);
    }

    private static void greatestX() {
        IntegerHull hull = new IntegerHull();
        check.due("has(40, 20)", hull.has(40, 20), true);
        check.due("has(41, 20)", hull.has(41, 20), false);
        check.due("best(1, 0)", hull.best(1, 0), 40);
        hull.condition(-1, 0, -40);
        check.due("x >= 40: points()", hull.points(), 41);
        hull.shift(0, -41);
        check.due("x >= 41: points()", hull.points(), 0);
    }

    private static void leastY() {
        IntegerHull hull = new IntegerHull();
        check.due("has(20, 0)", hull.has(20, 0), true);
        check.due("has(20, -1)", hull.has(20, -1), false);
        check.due("best(0, -1)", hull.best(0, -1), 0);
        hull.condition(0, 1, 0);
        check.due("y <= 0: points()", hull.points(), 41);
        hull.shift(0, -1);
        check.due("y <= -1: points()", hull.points(), 0);
    }

    private static void greatestY() {
        IntegerHull hull = new IntegerHull();
        check.due("has(20, 40)", hull.has(20, 40), true);
        check.due("has(20, 41)", hull.has(20, 41), false);
        check.due("best(0, 1)", hull.best(0, 1), 40);
        hull.condition(0, -1, -40);
        check.due("y >= 40: points()", hull.points(), 41);
        hull.shift(0, -41);
        check.due("y >= 41: points()", hull.points(), 0);
    }

    private static void widerConditions() {
        IntegerHull hull = Regions.of(new int[] {1, 0, 1000}, new int[] {-1, 0, 1000}, new int[] {0, 1, 1000},
                new int[] {0, -1, 1000});
        check.due("points()", hull.points(), 1681);
        check.due("has(41, 0)", hull.has(41, 0), false);
        check.due("has(0, 41)", hull.has(0, 41), false);
        check.due("has(-1, 0)", hull.has(-1, 0), false);
        check.due("has(0, -1)", hull.has(0, -1), false);
        check.due("corner(0)", hull.corner(0), Regions.at(0, 0));
        check.due("corner(2)", hull.corner(2), Regions.at(40, 40));
    }

    private static void equalFulfils() {
        IntegerHull hull = Regions.of(new int[] {2, 3, 12});
        check.due("2 * 3 + 3 * 2 <= 12: has(3, 2)", hull.has(3, 2), true);
        check.due("2 * 5 + 3 * 1 <= 12: has(5, 1)", hull.has(5, 1), false);
        hull.shift(0, 11);
        check.due("2 * 3 + 3 * 2 <= 11: has(3, 2)", hull.has(3, 2), false);
        hull.shift(0, 13);
        check.due("2 * 5 + 3 * 1 <= 13: has(5, 1)", hull.has(5, 1), true);
    }

    private static void extremeFactors() {
        holdsFrom(9, 9, 720, 1681, 1680);
        holdsFrom(-9, -9, -720, 1, 0);
        holdsFrom(9, -9, -360, 1, 0);
        holdsFrom(-9, 9, -360, 1, 0);
        holdsFrom(9, -9, 360, 1681, 1680);
        holdsFrom(-9, 9, 360, 1681, 1680);
    }

    /** The number of points with this c, and with one less. */
    private static void holdsFrom(int a, int b, int c, int points, int pointsBelow) {
        IntegerHull hull = new IntegerHull();
        String name = "condition(" + a + ", " + b + ", ";
        check.due(name + c + ")", hull.condition(a, b, c), 1);
        check.due(name + c + "): points()", hull.points(), points);
        check.due(name + (c - 1) + ")", hull.shift(0, c - 1), c);
        check.due(name + (c - 1) + "): points()", hull.points(), pointsBelow);
    }

    private static void oneFactorZero() {
        holdsFrom(0, 9, 360, 1681, 1640);
        holdsFrom(0, -9, -360, 41, 0);
        holdsFrom(9, 0, 360, 1681, 1640);
        holdsFrom(-9, 0, -360, 41, 0);
        holdsFrom(0, 1, 0, 41, 0);
        holdsFrom(1, 0, 0, 41, 0);
    }

    private static void extremeLimits() {
        check.due("condition(9, 9, 1000): points()", Regions.of(new int[] {9, 9, 1000}).points(), 1681);
        check.due("condition(-9, -9, 1000): points()", Regions.of(new int[] {-9, -9, 1000}).points(), 1681);
        check.due("condition(9, 9, -1000): points()", Regions.of(new int[] {9, 9, -1000}).points(), 0);
        check.due("condition(-9, -9, -1000): points()", Regions.of(new int[] {-9, -9, -1000}).points(), 0);
    }

    private static void eightConditions() {
        IntegerHull hull = Regions.octagon();
        check.due("points()", hull.points(), 381);
        check.due("area2()", hull.area2(), 700);
        check.due("border()", hull.border(), 60);
        // What comes in without one condition: 9 + 7 + 5 + 3 + 1 points beyond a straight edge, 5 + 4 + 3 + 2 + 1 beyond
        // a slanting one.
        int[] limits = {30, -10, 30, -10, 55, -25, 15, 15};
        int[] more = {25, 25, 25, 25, 15, 15, 15, 15};
        for (int i = 0; i < 8; i++) {
            check.due("shift(" + i + ", 1000)", hull.shift(i, 1000), limits[i]);
            check.due("without condition " + i + ": points()", hull.points(), 381 + more[i]);
            check.due("shift back " + i, hull.shift(i, limits[i]), 1000);
            check.due("with condition " + i + ": points()", hull.points(), 381);
        }
    }

    private static void noWholePoint() {
        IntegerHull half = Regions.line(2, 0, 1);
        check.due("x = 0.5: points()", half.points(), 0);
        check.due("x = 0.5: corners()", half.corners(), 0);
        IntegerHull narrow = Regions.of(new int[] {4, 0, 3}, new int[] {-4, 0, -1});
        check.due("0.25 <= x <= 0.75: points()", narrow.points(), 0);
        check.due("0.25 <= x <= 0.75: area2()", narrow.area2(), 0);
        check.due("0.25 <= x <= 0.75: best(1, 1)", narrow.best(1, 1), IntegerHull.NONE);
    }

    private static void hullOfWholePoints() {
        IntegerHull hull = Regions.of(new int[] {2, 0, 79});
        check.due("x <= 39.5: area2()", hull.area2(), 2 * 39 * 40);
        check.due("x <= 39.5: corner(1)", hull.corner(1), Regions.at(39, 0));
        // Negative halves are rounded the other way: x >= 0.5 begins with 1.
        IntegerHull right = Regions.of(new int[] {-2, 0, -1});
        check.due("x >= 0.5: corner(0)", right.corner(0), Regions.at(1, 0));
        check.due("x >= 0.5: points()", right.points(), 40 * 41);
    }

    private static void betweenIsNoCorner() {
        // (2, 1) lies between (4, 0) and (0, 2), and the axes' points between those and (0, 0).
        IntegerHull hull = Regions.of(new int[] {1, 2, 4});
        check.due("points()", hull.points(), 9);
        cornersAre(hull, 0, 0, 4, 0, 0, 2);
        cornersAre(Regions.line(9, -8, 0), 0, 0, 32, 36);
    }

    private static void insideIsNoCorner() {
        IntegerHull hull = Regions.of(new int[] {1, 1, 3}, new int[] {-1, -1, -1});
        check.due("points()", hull.points(), 9);
        cornersAre(hull, 0, 1, 1, 0, 3, 0, 0, 3);
        cornersAre(Regions.box(4, 6, 4, 6), 4, 4, 6, 4, 6, 6, 4, 6);
    }

    private static void barelyACorner() {
        // (1, 1) is a corner by one eighth: the way from (9, 0) to (0, 1) passes just below it.
        cornersAre(Regions.of(new int[] {1, 8, 9}), 0, 0, 9, 0, 1, 1, 0, 1);
        cornersAre(Regions.of(new int[] {1, 8, 8}), 0, 0, 8, 0, 0, 1);
        cornersAre(Regions.of(new int[] {8, 1, 9}), 0, 0, 1, 0, 1, 1, 0, 9);
        // Without (40, 40) the two points beside it become corners.
        cornersAre(Regions.triangle(79), 0, 0, 40, 0, 40, 39, 39, 40, 0, 40);
        // Without (0, 0) too.
        cornersAre(Regions.of(new int[] {-1, -1, -1}), 0, 1, 1, 0, 40, 0, 40, 40, 0, 40);
    }

    private static void firstHasLeastX() {
        // The lowest corner is (20, 15), but (15, 20) has the least x.
        IntegerHull diamond = Regions.of(new int[] {1, 1, 45}, new int[] {-1, -1, -35}, new int[] {1, -1, 5},
                new int[] {-1, 1, 5});
        cornersAre(diamond, 15, 20, 20, 15, 25, 20, 20, 25);
        cornersAre(Regions.line(1, 1, 40), 0, 40, 40, 0);
    }

    private static void firstHasLeastY() {
        cornersAre(Regions.box(3, 5, 10, 13), 3, 10, 5, 10, 5, 13, 3, 13);
        cornersAre(Regions.box(7, 7, 2, 6), 7, 2, 7, 6);
        // Two corners have x = 0; a third one has a lesser y than both.
        IntegerHull wedge = Regions.of(new int[] {-1, -1, -5}, new int[] {0, 1, 8}, new int[] {1, 0, 5});
        cornersAre(wedge, 0, 5, 5, 0, 5, 8, 0, 8);
    }

    private static void counterclockwise() {
        cornersAre(Regions.triangle(3), 0, 0, 3, 0, 0, 3);
        cornersAre(Regions.of(new int[] {-1, -1, -77}), 37, 40, 40, 37, 40, 40);
        cornersAre(Regions.octagon(), 10, 15, 15, 10, 25, 10, 30, 15, 30, 25, 25, 30, 15, 30, 10, 25);
    }

    /** The corners in their order, told as x, y, x, y ... */
    private static void cornersAre(IntegerHull hull, int... xy) {
        check.due("corners()", hull.corners(), xy.length / 2);
        for (int i = 0; i < xy.length / 2; i++) {
            check.due("corner(" + i + ")", hull.corner(i), Regions.at(xy[2 * i], xy[2 * i + 1]));
        }
        check.due("corner(" + xy.length / 2 + ")", hull.corner(xy.length / 2), IntegerHull.NONE);
    }

    /** The call once, so that a second one can't undo what the first has changed, and three times. */
    private static void changesNothing(String call, Consumer<IntegerHull> asking) {
        List<Supplier<IntegerHull>> regions = List.of(Regions::square, Regions::withoutPoints, Regions::octagon,
                () -> Regions.point(7, 5), () -> Regions.line(1, 1, 40), () -> Regions.box(7, 7, 2, 6));
        for (Supplier<IntegerHull> region : regions) {
            Answers.unchanged(check, call, region, asking);
            Answers.unchanged(check, call + ", three times", region, asking.andThen(asking).andThen(asking));
        }
    }

    private static void hasChangesNothing() {
        for (int n : new int[] {LEAST, -1, 0, 7, 20, 40, 41, GREATEST}) {
            changesNothing("has(" + n + ", 20)", hull -> hull.has(n, 20));
            changesNothing("has(20, " + n + ")", hull -> hull.has(20, n));
            changesNothing("has(" + n + ", " + n + ")", hull -> hull.has(n, n));
        }
    }

    private static void cornerChangesNothing() {
        for (int i : new int[] {LEAST, -1, 0, 1, 2, 3, 7, 8, 81, 82, GREATEST}) {
            changesNothing("corner(" + i + ")", hull -> hull.corner(i));
        }
    }

    private static void bestChangesNothing() {
        for (int n : new int[] {LEAST, -101, -100, -1, 0, 1, 100, 101, GREATEST}) {
            changesNothing("best(" + n + ", 1)", hull -> hull.best(n, 1));
            changesNothing("best(1, " + n + ")", hull -> hull.best(1, n));
            changesNothing("best(" + n + ", " + n + ")", hull -> hull.best(n, n));
        }
    }

    private static void bestCornerChangesNothing() {
        for (int n : new int[] {LEAST, -101, -100, -1, 0, 1, 100, 101, GREATEST}) {
            changesNothing("bestCorner(" + n + ", 1)", hull -> hull.bestCorner(n, 1));
            changesNothing("bestCorner(1, " + n + ")", hull -> hull.bestCorner(1, n));
            changesNothing("bestCorner(" + n + ", " + n + ")", hull -> hull.bestCorner(n, n));
        }
    }

    private static void columnChangesNothing() {
        for (int x : new int[] {LEAST, -1, 0, 7, 20, 40, 41, GREATEST}) {
            changesNothing("column(" + x + ")", hull -> hull.column(x));
        }
    }
}

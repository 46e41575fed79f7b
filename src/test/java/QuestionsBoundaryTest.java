import java.util.List;
import java.util.function.Supplier;

/** The boundary cases that promises 5 to 13 name: a test for each. */
public final class QuestionsBoundaryTest {
    private static final int BAD_FACTOR = -1;
    private static final int NONE = -3;
    private static final int LEAST = Integer.MIN_VALUE;
    private static final int GREATEST = Integer.MAX_VALUE;
    // No coordinate of the square; some would be one if only their last 8 or 16 bits were looked at.
    private static final int[] BESIDE = {LEAST, LEAST + 1, -65536, -256, -64, -41, -1, 41, 42, 64, 256, 65536, 1 << 30,
        GREATEST - 1, GREATEST};
    private static final int[] BAD_WEIGHTS = {LEAST, LEAST + 1, LEAST + 100, -65536 + 1, -256 + 1, -101, 101, 256 + 1,
        65536 + 1, 1 << 30, GREATEST - 100, GREATEST};
    private static final int[] NO_CORNER = {LEAST, LEAST + 1, -65536, -256, -64, -8, 8, 64, 81, 82, 256, 65536, 1 << 30,
        GREATEST};

    private static final Check check = new Check();

    public static void main(String[] args) {
        check.test("Promise 5: no lattice points", QuestionsBoundaryTest::noPoints);
        check.test("Promise 5: one lattice point", QuestionsBoundaryTest::onePoint);
        check.test("Promise 5: all lattice points", QuestionsBoundaryTest::allPoints);
        check.test("Promise 5: all but one", QuestionsBoundaryTest::allButOne);
        check.test("Promise 6: no lattice points", QuestionsBoundaryTest::hasNone);
        check.test("Promise 6: one lattice point", QuestionsBoundaryTest::hasOne);
        check.test("Promise 6: all lattice points", QuestionsBoundaryTest::hasAll);
        check.test("Promise 6: x beside the square, of any int", QuestionsBoundaryTest::hasBesideInX);
        check.test("Promise 6: y beside the square, of any int", QuestionsBoundaryTest::hasBesideInY);
        check.test("Promise 6: x and y beside the square, of any int", QuestionsBoundaryTest::hasBesideInBoth);
        check.test("Promise 7: 0 without lattice points", QuestionsBoundaryTest::cornersOfNone);
        check.test("Promise 7: 1 if there is just one", QuestionsBoundaryTest::cornersOfOne);
        check.test("Promise 7: 2 if all lie on one line", QuestionsBoundaryTest::cornersOfLines);
        check.test("Promise 7: 3 if one lies beside the line", QuestionsBoundaryTest::cornersBesideTheLine);
        check.test("Promise 8: NONE below 0", QuestionsBoundaryTest::cornerBelow);
        check.test("Promise 8: NONE above the last", QuestionsBoundaryTest::cornerAbove);
        check.test("Promise 8: NONE for any int", QuestionsBoundaryTest::cornerOfAnyInt);
        check.test("Promise 8: NONE for a corner that is gone", QuestionsBoundaryTest::cornerThatIsGone);
        check.test("Promise 8: the corners of the square as x + 64 * y", QuestionsBoundaryTest::cornerAtTheEnds);
        check.test("Promise 9: a hull without area", QuestionsBoundaryTest::areaOfNothing);
        check.test("Promise 9: the least and the greatest area", QuestionsBoundaryTest::areaAtTheEnds);
        check.test("Promise 10: all of them on a hull without area", QuestionsBoundaryTest::borderWithoutArea);
        check.test("Promise 10: no lattice points", QuestionsBoundaryTest::borderOfNone);
        check.test("Promise 10: all of them, or not, on a hull with area", QuestionsBoundaryTest::borderWithArea);
        check.test("Promise 11: p from -100", () -> weightBound(true, -100, -101));
        check.test("Promise 11: p to 100", () -> weightBound(true, 100, 101));
        check.test("Promise 11: p of any int", QuestionsBoundaryTest::bestOfAnyP);
        check.test("Promise 11: q from -100", () -> weightBound(false, -100, -101));
        check.test("Promise 11: q to 100", () -> weightBound(false, 100, 101));
        check.test("Promise 11: q of any int", QuestionsBoundaryTest::bestOfAnyQ);
        check.test("Promise 11: no lattice points", QuestionsBoundaryTest::bestOfNone);
        check.test("Promise 11: the value can be any number", QuestionsBoundaryTest::bestOfAnyValue);
        check.test("Promise 11: a refused call changes nothing", QuestionsBoundaryTest::refusedBest);
        check.test("Promise 12: the first corner, by number", QuestionsBoundaryTest::firstOfTwo);
        check.test("Promise 12: the first corner of all", QuestionsBoundaryTest::firstOfAll);
        check.test("Promise 12: the last corner alone", QuestionsBoundaryTest::lastAlone);
        check.test("Promise 12: p from -100 to 100", QuestionsBoundaryTest::bestCornerBoundsOfP);
        check.test("Promise 12: q from -100 to 100", QuestionsBoundaryTest::bestCornerBoundsOfQ);
        check.test("Promise 12: BAD_FACTOR for any int", QuestionsBoundaryTest::bestCornerOfAnyInt);
        check.test("Promise 12: NONE without lattice points", QuestionsBoundaryTest::bestCornerOfNone);
        check.test("Promise 12: a refused call changes nothing", QuestionsBoundaryTest::refusedBestCorner);
        check.test("Promise 13: 0 beside the square", QuestionsBoundaryTest::columnBeside);
        check.test("Promise 13: 0 for any int", QuestionsBoundaryTest::columnOfAnyInt);
        check.test("Promise 13: 0 in a column of the square", QuestionsBoundaryTest::columnWithout);
        check.test("Promise 13: 0 between columns with points", QuestionsBoundaryTest::columnBetween);
        check.test("Promise 13: one point and all", QuestionsBoundaryTest::columnOfOneAndAll);
        check.end();
    }

    private static void noPoints() {
        check.due("x + y <= -1: points()", Regions.withoutPoints().points(), 0);
        check.due("x + y >= 81: points()", Regions.of(new int[] {-1, -1, -81}).points(), 0);
        check.due("two that exclude each other: points()", Regions.box(21, 20, 0, 40).points(), 0);
        check.due("x = 0.5: points()", Regions.line(2, 0, 1).points(), 0);
    }

    private static void onePoint() {
        for (int x : new int[] {0, 1, 17, 39, 40}) {
            for (int y : new int[] {0, 1, 23, 39, 40}) {
                check.due("(" + x + ", " + y + ") alone: points()", Regions.point(x, y).points(), 1);
            }
        }
        check.due("x + y <= 0: points()", Regions.triangle(0).points(), 1);
        check.due("x + y >= 80: points()", Regions.of(new int[] {-1, -1, -80}).points(), 1);
    }

    private static void allPoints() {
        check.due("new: points()", Regions.square().points(), 41 * 41);
        check.due("x + y <= 80: points()", Regions.triangle(80).points(), 41 * 41);
        check.due("the square told again: points()", Regions.box(0, 40, 0, 40).points(), 41 * 41);
    }

    private static void allButOne() {
        check.due("x + y <= 79: points()", Regions.triangle(79).points(), 1680);
        check.due("x + y >= 1: points()", Regions.of(new int[] {-1, -1, -1}).points(), 1680);
        check.due("x - y <= 39: points()", Regions.of(new int[] {1, -1, 39}).points(), 1680);
        check.due("y - x <= 39: points()", Regions.of(new int[] {-1, 1, 39}).points(), 1680);
    }

    private static void hasNone() {
        for (int x = -1; x <= 41; x += 2) {
            // One object for each x, so that none is used for too many calls.
            IntegerHull hull = Regions.withoutPoints();
            for (int y = -1; y <= 41; y++) {
                check.due("has(" + x + ", " + y + ")", hull.has(x, y), false);
            }
        }
        check.due("has(0, 0)", Regions.withoutPoints().has(0, 0), false);
        check.due("has(0, -1)", Regions.withoutPoints().has(0, -1), false);
        check.due("has(40, 40)", Regions.withoutPoints().has(40, 40), false);
    }

    private static void hasOne() {
        for (int[] at : new int[][] {{0, 0}, {40, 0}, {40, 40}, {0, 40}, {17, 23}}) {
            IntegerHull hull = Regions.point(at[0], at[1]);
            for (int x = at[0] - 1; x <= at[0] + 1; x++) {
                for (int y = at[1] - 1; y <= at[1] + 1; y++) {
                    check.due("(" + at[0] + ", " + at[1] + ") alone: has(" + x + ", " + y + ")", hull.has(x, y),
                            x == at[0] && y == at[1]);
                }
            }
        }
    }

    private static void hasAll() {
        for (int x = -1; x <= 41; x++) {
            IntegerHull hull = Regions.square();
            for (int y = -1; y <= 41; y++) {
                boolean within = x >= 0 && x <= 40 && y >= 0 && y <= 40;
                check.due("has(" + x + ", " + y + ")", hull.has(x, y), within);
            }
        }
    }

    private static void hasBesideInX() {
        IntegerHull hull = Regions.square();
        for (int x : BESIDE) {
            for (int y : new int[] {0, 1, 20, 40}) {
                check.due("has(" + x + ", " + y + ")", hull.has(x, y), false);
            }
        }
    }

    private static void hasBesideInY() {
        IntegerHull hull = Regions.square();
        for (int y : BESIDE) {
            for (int x : new int[] {0, 1, 20, 40}) {
                check.due("has(" + x + ", " + y + ")", hull.has(x, y), false);
            }
        }
    }

    private static void hasBesideInBoth() {
        IntegerHull hull = Regions.square();
        // A condition that these points fulfil, by their size or by a wrap-around, does not bring them in.
        IntegerHull cut = Regions.of(new int[] {9, 9, 1000}, new int[] {-9, -9, 1000}, new int[] {8, 0, 1000});
        for (int x : BESIDE) {
            for (int y : BESIDE) {
                check.due("has(" + x + ", " + y + ")", hull.has(x, y), false);
                check.due("with conditions: has(" + x + ", " + y + ")", cut.has(x, y), false);
            }
        }
    }

    private static void cornersOfNone() {
        check.due("x + y <= -1: corners()", Regions.withoutPoints().corners(), 0);
        check.due("x = 0.5: corners()", Regions.line(2, 0, 1).corners(), 0);
        IntegerHull hull = Regions.square();
        check.due("the square: corners()", hull.corners(), 4);
        hull.condition(1, 0, -1);
        check.due("cut away: corners()", hull.corners(), 0);
        hull.drop();
        check.due("given back: corners()", hull.corners(), 4);
    }

    private static void cornersOfOne() {
        for (int[] at : new int[][] {{0, 0}, {40, 0}, {40, 40}, {0, 40}, {17, 23}}) {
            IntegerHull hull = Regions.point(at[0], at[1]);
            check.due("(" + at[0] + ", " + at[1] + ") alone: corners()", hull.corners(), 1);
            check.due("(" + at[0] + ", " + at[1] + ") alone: corner(0)", hull.corner(0), Regions.at(at[0], at[1]));
        }
    }

    private static void cornersOfLines() {
        twoCorners("upright, at the left", Regions.box(0, 0, 0, 40), Regions.at(0, 0), Regions.at(0, 40));
        twoCorners("upright, at the right", Regions.box(40, 40, 0, 40), Regions.at(40, 0), Regions.at(40, 40));
        twoCorners("upright, two points", Regions.box(7, 7, 5, 6), Regions.at(7, 5), Regions.at(7, 6));
        twoCorners("level, at the bottom", Regions.box(0, 40, 0, 0), Regions.at(0, 0), Regions.at(40, 0));
        twoCorners("level, at the top", Regions.box(0, 40, 40, 40), Regions.at(0, 40), Regions.at(40, 40));
        twoCorners("level, two points", Regions.box(7, 8, 5, 5), Regions.at(7, 5), Regions.at(8, 5));
        twoCorners("rising", Regions.line(1, -1, 0), Regions.at(0, 0), Regions.at(40, 40));
        twoCorners("falling", Regions.line(1, 1, 40), Regions.at(0, 40), Regions.at(40, 0));
        twoCorners("falling, two points", Regions.line(1, 1, 1), Regions.at(0, 1), Regions.at(1, 0));
        twoCorners("steep", Regions.line(9, -1, 3), Regions.at(1, 6), Regions.at(4, 33));
        twoCorners("with gaps", Regions.line(8, 9, 320), Regions.at(4, 32), Regions.at(40, 0));
    }

    private static void twoCorners(String name, IntegerHull hull, int first, int second) {
        check.due(name + ": corners()", hull.corners(), 2);
        check.due(name + ": corner(0)", hull.corner(0), first);
        check.due(name + ": corner(1)", hull.corner(1), second);
    }

    private static void cornersBesideTheLine() {
        check.due("x + y <= 1: corners()", Regions.triangle(1).corners(), 3);
        check.due("x + y >= 79: corners()", Regions.of(new int[] {-1, -1, -79}).corners(), 3);
        // A column of ten and one point beside it, and a row of ten and one above it.
        check.due("a column and a point: corners()", Regions.of(new int[] {9, 1, 9}).corners(), 3);
        check.due("a row and a point: corners()", Regions.of(new int[] {1, 9, 9}).corners(), 3);
    }

    private static void cornerBelow() {
        for (Supplier<IntegerHull> shape : shapes()) {
            check.due("corner(-1)", shape.get().corner(-1), NONE);
        }
        check.due("the square: corner(0)", Regions.square().corner(0), Regions.at(0, 0));
    }

    private static void cornerAbove() {
        for (Supplier<IntegerHull> shape : shapes()) {
            IntegerHull hull = shape.get();
            int count = hull.corners();
            check.due(count + " corners: corner(" + count + ")", hull.corner(count), NONE);
            check.due(count + " corners: corner(" + (count + 1) + ")", hull.corner(count + 1), NONE);
            if (count > 0) {
                check.due(count + " corners: the last is one", hull.corner(count - 1) >= 0, true);
            }
        }
    }

    private static void cornerOfAnyInt() {
        for (Supplier<IntegerHull> shape : shapes()) {
            IntegerHull hull = shape.get();
            for (int i : NO_CORNER) {
                check.due("corner(" + i + ")", hull.corner(i), NONE);
            }
        }
    }

    /** Hulls of 0, 1, 2, 3, 4 and 8 corners. */
    private static List<Supplier<IntegerHull>> shapes() {
        return List.of(Regions::withoutPoints, () -> Regions.point(7, 5), () -> Regions.line(1, 1, 40),
                () -> Regions.triangle(3), Regions::square, Regions::octagon);
    }

    private static void cornerThatIsGone() {
        IntegerHull hull = Regions.octagon();
        check.due("corner(7)", hull.corner(7), Regions.at(10, 25));
        hull.shift(0, 10);
        check.due("x = 10: corners()", hull.corners(), 2);
        check.due("x = 10: corner(2)", hull.corner(2), NONE);
        check.due("x = 10: corner(7)", hull.corner(7), NONE);
        hull.shift(0, 9);
        check.due("nothing left: corner(0)", hull.corner(0), NONE);
        hull.shift(0, 30);
        check.due("as before: corner(7)", hull.corner(7), Regions.at(10, 25));
    }

    private static void cornerAtTheEnds() {
        IntegerHull hull = Regions.square();
        check.due("corner(0)", hull.corner(0), 0);
        check.due("corner(1)", hull.corner(1), 40);
        check.due("corner(2)", hull.corner(2), 40 + 64 * 40);
        check.due("corner(3)", hull.corner(3), 64 * 40);
        check.due("(1, 0) alone: corner(0)", Regions.point(1, 0).corner(0), 1);
        check.due("(0, 1) alone: corner(0)", Regions.point(0, 1).corner(0), 64);
    }

    private static void areaOfNothing() {
        check.due("no points: area2()", Regions.withoutPoints().area2(), 0);
        check.due("one point: area2()", Regions.point(40, 40).area2(), 0);
        check.due("upright: area2()", Regions.box(40, 40, 0, 40).area2(), 0);
        check.due("level: area2()", Regions.box(0, 40, 40, 40).area2(), 0);
        check.due("falling: area2()", Regions.line(1, 1, 40).area2(), 0);
        check.due("with gaps: area2()", Regions.line(8, 9, 320).area2(), 0);
    }

    private static void areaAtTheEnds() {
        check.due("x + y <= 1: area2()", Regions.triangle(1).area2(), 1);
        check.due("x + y >= 79: area2()", Regions.of(new int[] {-1, -1, -79}).area2(), 1);
        check.due("a unit square: area2()", Regions.box(39, 40, 39, 40).area2(), 2);
        check.due("the square: area2()", Regions.square().area2(), 3200);
        check.due("all but one: area2()", Regions.triangle(79).area2(), 3199);
    }

    private static void borderWithoutArea() {
        check.due("one point: border()", Regions.point(7, 5).border(), 1);
        check.due("one point, at the end: border()", Regions.point(40, 40).border(), 1);
        check.due("upright: border()", Regions.box(40, 40, 0, 40).border(), 41);
        check.due("level: border()", Regions.box(0, 40, 0, 0).border(), 41);
        check.due("two points: border()", Regions.box(7, 8, 5, 5).border(), 2);
        check.due("falling: border()", Regions.line(1, 1, 40).border(), 41);
        check.due("rising: border()", Regions.line(1, -1, 0).border(), 41);
        check.due("with gaps: border()", Regions.line(8, 9, 320).border(), 5);
    }

    private static void borderOfNone() {
        check.due("no points: border()", Regions.withoutPoints().border(), 0);
        check.due("x = 0.5: border()", Regions.line(2, 0, 1).border(), 0);
    }

    private static void borderWithArea() {
        check.due("x + y <= 1: border()", Regions.triangle(1).border(), 3);
        check.due("x + y <= 2: border()", Regions.triangle(2).border(), 6);
        check.due("x + y <= 3, (1, 1) is inside: border()", Regions.triangle(3).border(), 9);
        check.due("a unit square: border()", Regions.box(39, 40, 39, 40).border(), 4);
        check.due("two by two, one inside: border()", Regions.box(4, 6, 4, 6).border(), 8);
        check.due("one by forty: border()", Regions.box(4, 5, 0, 40).border(), 82);
        check.due("the square: border()", Regions.square().border(), 160);
    }

    private static void weightBound(boolean first, int in, int out) {
        IntegerHull hull = Regions.box(3, 5, 10, 13);
        int most = first ? 5 : 13;
        int least = first ? 3 : 10;
        check.due("best with " + in, bestOf(hull, first, in, 0), in < 0 ? in * least : in * most);
        check.due("best with " + out, bestOf(hull, first, out, 0), BAD_FACTOR);
        for (int other : new int[] {-100, -1, 1, 100}) {
            check.due("best with " + out + " and " + other, bestOf(hull, first, out, other), BAD_FACTOR);
        }
        check.due("both at the bound", hull.best(in, in), in < 0 ? in * 13 : in * 18);
    }

    private static int bestOf(IntegerHull hull, boolean first, int weight, int other) {
        return first ? hull.best(weight, other) : hull.best(other, weight);
    }

    private static void bestOfAnyP() {
        IntegerHull hull = Regions.square();
        for (int p : BAD_WEIGHTS) {
            check.due("best(" + p + ", 0)", hull.best(p, 0), BAD_FACTOR);
            check.due("best(" + p + ", 100)", hull.best(p, 100), BAD_FACTOR);
        }
    }

    private static void bestOfAnyQ() {
        IntegerHull hull = Regions.square();
        for (int q : BAD_WEIGHTS) {
            check.due("best(0, " + q + ")", hull.best(0, q), BAD_FACTOR);
            check.due("best(100, " + q + ")", hull.best(100, q), BAD_FACTOR);
            check.due("best(" + q + ", " + q + ")", hull.best(q, q), BAD_FACTOR);
        }
    }

    private static void bestOfNone() {
        for (IntegerHull hull : List.of(Regions.withoutPoints(), Regions.line(2, 0, 1))) {
            for (int weight : new int[] {-100, -1, 0, 1, 100}) {
                check.due("best(" + weight + ", 0)", hull.best(weight, 0), NONE);
                check.due("best(0, " + weight + ")", hull.best(0, weight), NONE);
                check.due("best(" + weight + ", " + weight + ")", hull.best(weight, weight), NONE);
            }
        }
    }

    /** From the least to the greatest one, and the numbers of the three constants, which are values here. */
    private static void bestOfAnyValue() {
        check.due("(40, 40) alone: best(-100, -100)", Regions.point(40, 40).best(-100, -100), -8000);
        check.due("(40, 40) alone: best(100, 100)", Regions.point(40, 40).best(100, 100), 8000);
        check.due("the square: best(100, 100)", Regions.square().best(100, 100), 8000);
        check.due("the square: best(-100, -100)", Regions.square().best(-100, -100), 0);
        check.due("the square: best(0, 0)", Regions.square().best(0, 0), 0);
        check.due("(1, 0) alone: best(-1, 0)", Regions.point(1, 0).best(-1, 0), -1);
        check.due("(2, 0) alone: best(-1, 0)", Regions.point(2, 0).best(-1, 0), -2);
        check.due("(3, 0) alone: best(-1, 0)", Regions.point(3, 0).best(-1, 0), -3);
        check.due("(40, 0) alone: best(-100, 100)", Regions.point(40, 0).best(-100, 100), -4000);
    }

    private static void refusedBest() {
        for (Supplier<IntegerHull> shape : shapes()) {
            for (int bad : new int[] {LEAST, -101, 101, GREATEST}) {
                String name = "best(" + bad + ", 1)";
                Answers.unchanged(check, name, shape, hull -> check.due(name, hull.best(bad, 1), BAD_FACTOR));
            }
        }
        Answers.unchanged(check, "best(1, 1)", Regions::withoutPoints,
                hull -> check.due("best(1, 1)", hull.best(1, 1), NONE));
    }

    private static void firstOfTwo() {
        IntegerHull hull = Regions.octagon();
        // Each edge's two corners reach the same value.
        check.due("bestCorner(-1, -1)", hull.bestCorner(-1, -1), 0);
        check.due("bestCorner(0, -1)", hull.bestCorner(0, -1), 1);
        check.due("bestCorner(1, -1)", hull.bestCorner(1, -1), 2);
        check.due("bestCorner(1, 0)", hull.bestCorner(1, 0), 3);
        check.due("bestCorner(1, 1)", hull.bestCorner(1, 1), 4);
        check.due("bestCorner(0, 1)", hull.bestCorner(0, 1), 5);
        check.due("bestCorner(-1, 1)", hull.bestCorner(-1, 1), 6);
        // Corner 7 comes before corner 0 on the way round; the number decides.
        check.due("bestCorner(-1, 0)", hull.bestCorner(-1, 0), 0);
        check.due("upright: bestCorner(-100, 0)", Regions.box(7, 7, 2, 6).bestCorner(-100, 0), 0);
        check.due("falling: bestCorner(5, 5)", Regions.line(1, 1, 40).bestCorner(5, 5), 0);
    }

    private static void firstOfAll() {
        for (Supplier<IntegerHull> shape : shapes()) {
            IntegerHull hull = shape.get();
            int due = hull.corners() == 0 ? NONE : 0;
            check.due(hull.corners() + " corners: bestCorner(0, 0)", hull.bestCorner(0, 0), due);
        }
        check.due("one point: bestCorner(-100, -100)", Regions.point(40, 40).bestCorner(-100, -100), 0);
    }

    private static void lastAlone() {
        check.due("bestCorner(-2, 1)", Regions.octagon().bestCorner(-2, 1), 7);
        check.due("bestCorner(-100, 99)", Regions.octagon().bestCorner(-100, 99), 7);
        check.due("the square: bestCorner(-1, 1)", Regions.square().bestCorner(-1, 1), 3);
        check.due("falling: bestCorner(1, 0)", Regions.line(1, 1, 40).bestCorner(1, 0), 1);
    }

    private static void bestCornerBoundsOfP() {
        IntegerHull hull = Regions.square();
        check.due("bestCorner(-100, 1)", hull.bestCorner(-100, 1), 3);
        check.due("bestCorner(-101, 1)", hull.bestCorner(-101, 1), BAD_FACTOR);
        check.due("bestCorner(100, 1)", hull.bestCorner(100, 1), 2);
        check.due("bestCorner(101, 1)", hull.bestCorner(101, 1), BAD_FACTOR);
    }

    private static void bestCornerBoundsOfQ() {
        IntegerHull hull = Regions.square();
        check.due("bestCorner(1, -100)", hull.bestCorner(1, -100), 1);
        check.due("bestCorner(1, -101)", hull.bestCorner(1, -101), BAD_FACTOR);
        check.due("bestCorner(1, 100)", hull.bestCorner(1, 100), 2);
        check.due("bestCorner(1, 101)", hull.bestCorner(1, 101), BAD_FACTOR);
    }

    private static void bestCornerOfAnyInt() {
        IntegerHull hull = Regions.square();
        for (int bad : BAD_WEIGHTS) {
            check.due("bestCorner(" + bad + ", 0)", hull.bestCorner(bad, 0), BAD_FACTOR);
            check.due("bestCorner(0, " + bad + ")", hull.bestCorner(0, bad), BAD_FACTOR);
            check.due("bestCorner(" + bad + ", " + bad + ")", hull.bestCorner(bad, bad), BAD_FACTOR);
        }
    }

    private static void bestCornerOfNone() {
        for (IntegerHull hull : List.of(Regions.withoutPoints(), Regions.line(2, 0, 1))) {
            for (int weight : new int[] {-100, -1, 0, 1, 100}) {
                check.due("bestCorner(" + weight + ", 0)", hull.bestCorner(weight, 0), NONE);
                check.due("bestCorner(0, " + weight + ")", hull.bestCorner(0, weight), NONE);
                check.due("bestCorner(" + weight + ", " + weight + ")", hull.bestCorner(weight, weight), NONE);
            }
        }
    }

    private static void refusedBestCorner() {
        for (Supplier<IntegerHull> shape : shapes()) {
            for (int bad : new int[] {LEAST, -101, 101, GREATEST}) {
                String name = "bestCorner(1, " + bad + ")";
                Answers.unchanged(check, name, shape, hull -> check.due(name, hull.bestCorner(1, bad), BAD_FACTOR));
            }
        }
        Answers.unchanged(check, "bestCorner(1, 1)", Regions::withoutPoints,
                hull -> check.due("bestCorner(1, 1)", hull.bestCorner(1, 1), NONE));
    }

    private static void columnBeside() {
        IntegerHull hull = Regions.square();
        check.due("column(-1)", hull.column(-1), 0);
        check.due("column(0)", hull.column(0), 41);
        check.due("column(40)", hull.column(40), 41);
        check.due("column(41)", hull.column(41), 0);
    }

    private static void columnOfAnyInt() {
        for (Supplier<IntegerHull> shape : shapes()) {
            IntegerHull hull = shape.get();
            for (int x : BESIDE) {
                check.due("column(" + x + ")", hull.column(x), 0);
            }
        }
    }

    private static void columnWithout() {
        IntegerHull none = Regions.withoutPoints();
        for (int x = 0; x <= 40; x++) {
            check.due("no points: column(" + x + ")", none.column(x), 0);
        }
        IntegerHull hull = Regions.box(3, 5, 10, 13);
        int[] due = {0, 0, 0, 4, 4, 4, 0, 0};
        for (int x = 0; x < due.length; x++) {
            check.due("x from 3 to 5: column(" + x + ")", hull.column(x), due[x]);
        }
    }

    private static void columnBetween() {
        IntegerHull hull = Regions.line(8, 9, 320);
        for (int x = 0; x <= 40; x++) {
            check.due("column(" + x + ")", hull.column(x), x % 9 == 4 ? 1 : 0);
        }
    }

    private static void columnOfOneAndAll() {
        IntegerHull hull = Regions.triangle(40);
        for (int x = 0; x <= 40; x++) {
            check.due("column(" + x + ")", hull.column(x), 41 - x);
        }
    }
}

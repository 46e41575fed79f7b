/** The promises of the document one by one: ordinary inputs, the edges that it names, and wrong inputs. */
public final class PromisesTest {
    private static final int BAD_FACTOR = -1;
    private static final int FULL = -2;
    private static final int NONE = -3;
    private static final int LEAST = Integer.MIN_VALUE;
    private static final int GREATEST = Integer.MAX_VALUE;

    private static final Check check = new Check();

    public static void main(String[] args) {
        constants();
        newObject();
        conditionCounts();
        conditionRefuses();
        conditionWhenFull();
        everyConditionCuts();
        dropTakesTheLast();
        shiftChangesOne();
        shiftRefuses();
        pointsAndColumns();
        hasOutsideTheSquare();
        cornersOfSmallHulls();
        cornersOverEmptyColumns();
        cornersInOrder();
        areaAndBorder();
        bestValues();
        bestRefuses();
        bestCornerTies();
        questionsChangeNothing();
        objectsStandAlone();
        check.end();
    }

    private static void constants() {
        check.due("BAD_FACTOR", IntegerHull.BAD_FACTOR, BAD_FACTOR);
        check.due("FULL", IntegerHull.FULL, FULL);
        check.due("NONE", IntegerHull.NONE, NONE);
    }

    private static void newObject() {
        IntegerHull hull = new IntegerHull();
        wholeSquare("new", hull);
        check.due("new: shift(0, 5)", hull.shift(0, 5), NONE);
        check.due("new: drop()", hull.drop(), NONE);
        wholeSquare("new, after drop", hull);
        check.due("new: condition(1, 0, 5)", hull.condition(1, 0, 5), 1);
    }

    private static void wholeSquare(String when, IntegerHull hull) {
        check.due(when + ": points()", hull.points(), 41 * 41);
        check.due(when + ": corners()", hull.corners(), 4);
        check.due(when + ": corner(0)", hull.corner(0), Regions.at(0, 0));
        check.due(when + ": corner(1)", hull.corner(1), Regions.at(40, 0));
        check.due(when + ": corner(2)", hull.corner(2), Regions.at(40, 40));
        check.due(when + ": corner(3)", hull.corner(3), Regions.at(0, 40));
        check.due(when + ": corner(4)", hull.corner(4), NONE);
        check.due(when + ": area2()", hull.area2(), 3200);
        check.due(when + ": border()", hull.border(), 160);
        check.due(when + ": column(0)", hull.column(0), 41);
        check.due(when + ": column(40)", hull.column(40), 41);
        check.due(when + ": has(0, 0)", hull.has(0, 0), true);
        check.due(when + ": has(40, 40)", hull.has(40, 40), true);
        check.due(when + ": best(100, 100)", hull.best(100, 100), 8000);
        check.due(when + ": bestCorner(100, 100)", hull.bestCorner(100, 100), 2);
    }

    private static void conditionCounts() {
        IntegerHull hull = new IntegerHull();
        int[][] edges = {{9, 9, 1000}, {-9, -9, 1000}, {9, -9, 1000}, {0, 1, 40}, {1, 0, 40}, {0, -1, 0}, {-1, 0, 0}};
        for (int n = 0; n < edges.length; n++) {
            check.due("edge " + n, hull.condition(edges[n][0], edges[n][1], edges[n][2]), n + 1);
        }
        wholeSquare("loose conditions", hull);
        check.due("condition(1, 0, -1000)", hull.condition(1, 0, -1000), 8);
        check.due("nothing left: points()", hull.points(), 0);
    }

    private static void conditionRefuses() {
        IntegerHull hull = new IntegerHull();
        int[] badFactors = {-10, 10, LEAST, GREATEST, LEAST + 9, GREATEST - 9};
        for (int bad : badFactors) {
            check.due("condition(" + bad + ", 1, 0)", hull.condition(bad, 1, 0), BAD_FACTOR);
            check.due("condition(1, " + bad + ", 0)", hull.condition(1, bad, 0), BAD_FACTOR);
        }
        int[] badLimits = {-1001, 1001, LEAST, GREATEST};
        for (int bad : badLimits) {
            check.due("condition(1, 1, " + bad + ")", hull.condition(1, 1, bad), BAD_FACTOR);
        }
        check.due("condition(0, 0, 0)", hull.condition(0, 0, 0), BAD_FACTOR);
        check.due("condition(0, 0, -1)", hull.condition(0, 0, -1), BAD_FACTOR);
        wholeSquare("refused conditions", hull);
        check.due("after refusals: drop()", hull.drop(), NONE);
    }

    private static void conditionWhenFull() {
        IntegerHull hull = new IntegerHull();
        for (int n = 1; n <= 8; n++) {
            check.due("condition number " + n, hull.condition(1, 1, 50 - n), n);
        }
        check.due("ninth", hull.condition(1, 0, 0), FULL);
        check.due("ninth with a bad factor", hull.condition(10, 0, 0), BAD_FACTOR);
        check.due("ninth with no factor", hull.condition(0, 0, 0), BAD_FACTOR);
        check.due("ninth with a bad limit", hull.condition(1, 0, 1001), BAD_FACTOR);
        check.due("full: best(1, 1)", hull.best(1, 1), 42);
        check.due("full: best(1, 0)", hull.best(1, 0), 40);
        check.due("full: drop()", hull.drop(), 7);
        check.due("one dropped: condition(1, 0, 3)", hull.condition(1, 0, 3), 8);
        check.due("full again: best(1, 0)", hull.best(1, 0), 3);
        check.due("full again: ninth", hull.condition(1, 0, 0), FULL);
    }

    private static void everyConditionCuts() {
        for (int cutting = 0; cutting < 8; cutting++) {
            IntegerHull hull = new IntegerHull();
            for (int n = 0; n < 8; n++) {
                hull.condition(1, 0, n == cutting ? 4 : 40);
            }
            check.due("condition " + cutting + " cuts: points()", hull.points(), 5 * 41);
            check.due("condition " + cutting + ": shift", hull.shift(cutting, 0), 4);
            check.due("condition " + cutting + " shifted: points()", hull.points(), 41);
        }
    }

    private static void dropTakesTheLast() {
        IntegerHull hull = new IntegerHull();
        hull.condition(1, 0, 9);
        hull.condition(0, 1, 4);
        check.due("two: points()", hull.points(), 50);
        check.due("drop()", hull.drop(), 1);
        check.due("one left: points()", hull.points(), 410);
        check.due("one left: corners()", hull.corners(), 4);
        check.due("dropped: shift(1, 0)", hull.shift(1, 0), NONE);
        check.due("left: shift(0, 19)", hull.shift(0, 19), 9);
        check.due("drop() again", hull.drop(), 0);
        wholeSquare("all dropped", hull);
        check.due("drop() with none", hull.drop(), NONE);
        check.due("condition after that", hull.condition(0, 1, 0), 1);
    }

    private static void shiftChangesOne() {
        IntegerHull hull = new IntegerHull();
        hull.condition(1, 0, 9);
        hull.condition(0, 1, 4);
        check.due("shift(0, 1)", hull.shift(0, 1), 9);
        check.due("shifted: points()", hull.points(), 10);
        check.due("shifted: corner(2)", hull.corner(2), Regions.at(1, 4));
        check.due("shift(1, 0)", hull.shift(1, 0), 4);
        check.due("both shifted: points()", hull.points(), 2);
        check.due("shift(1, -1000)", hull.shift(1, -1000), 0);
        check.due("empty: points()", hull.points(), 0);
        check.due("shift(1, 1000)", hull.shift(1, 1000), -1000);
        check.due("wide: points()", hull.points(), 82);
        check.due("shift(1, 1000) once more", hull.shift(1, 1000), 1000);
        check.due("still two: drop()", hull.drop(), 1);
    }

    private static void shiftRefuses() {
        IntegerHull hull = new IntegerHull();
        hull.condition(1, 0, 9);
        int[] badNumbers = {-1, 1, 2, 7, 8, LEAST, GREATEST};
        for (int bad : badNumbers) {
            check.due("shift(" + bad + ", 3)", hull.shift(bad, 3), NONE);
            check.due("shift(" + bad + ", 1001)", hull.shift(bad, 1001), NONE);
        }
        int[] badLimits = {-1001, 1001, LEAST, GREATEST};
        for (int bad : badLimits) {
            check.due("shift(0, " + bad + ")", hull.shift(0, bad), BAD_FACTOR);
        }
        check.due("refused shifts: points()", hull.points(), 410);
        check.due("refused shifts: shift(0, 0)", hull.shift(0, 0), 9);
    }

    private static void pointsAndColumns() {
        IntegerHull hull = Regions.triangle(3);
        check.due("triangle: points()", hull.points(), 10);
        int[] counts = {4, 3, 2, 1, 0};
        for (int x = 0; x < counts.length; x++) {
            check.due("triangle: column(" + x + ")", hull.column(x), counts[x]);
        }
        int[] outside = {-1, 41, 64, LEAST, GREATEST};
        for (int x : outside) {
            check.due("triangle: column(" + x + ")", hull.column(x), 0);
            check.due("square: column(" + x + ")", new IntegerHull().column(x), 0);
        }
        IntegerHull none = Regions.withoutPoints();
        check.due("no points: points()", none.points(), 0);
        check.due("no points: column(0)", none.column(0), 0);
    }

    private static void hasOutsideTheSquare() {
        IntegerHull hull = Regions.triangle(3);
        check.due("triangle: has(1, 2)", hull.has(1, 2), true);
        check.due("triangle: has(2, 2)", hull.has(2, 2), false);
        check.due("triangle: has(0, 3)", hull.has(0, 3), true);
        check.due("triangle: has(-1, 0)", hull.has(-1, 0), false);
        check.due("triangle: has(0, -1)", hull.has(0, -1), false);
        IntegerHull square = new IntegerHull();
        int[] outside = {-1, 41, LEAST, GREATEST};
        for (int bad : outside) {
            check.due("square: has(" + bad + ", 3)", square.has(bad, 3), false);
            check.due("square: has(3, " + bad + ")", square.has(3, bad), false);
            check.due("square: has(" + bad + ", " + bad + ")", square.has(bad, bad), false);
        }
        check.due("no points: has(0, 0)", Regions.withoutPoints().has(0, 0), false);
        check.due("no points: has(0, -1)", Regions.withoutPoints().has(0, -1), false);
    }

    private static void cornersOfSmallHulls() {
        IntegerHull none = Regions.withoutPoints();
        flat("no points", none, 0);
        check.due("no points: corner(0)", none.corner(0), NONE);

        IntegerHull one = Regions.box(7, 7, 5, 5);
        flat("one point", one, 1);
        check.due("one point: corner(0)", one.corner(0), Regions.at(7, 5));
        check.due("one point: corner(1)", one.corner(1), NONE);

        IntegerHull upright = Regions.box(7, 7, 2, 6);
        flat("upright", upright, 5);
        check.due("upright: corner(0)", upright.corner(0), Regions.at(7, 2));
        check.due("upright: corner(1)", upright.corner(1), Regions.at(7, 6));
        check.due("upright: corner(2)", upright.corner(2), NONE);

        IntegerHull level = Regions.box(3, 5, 40, 40);
        flat("level", level, 3);
        check.due("level: corner(0)", level.corner(0), Regions.at(3, 40));
        check.due("level: corner(1)", level.corner(1), Regions.at(5, 40));

        IntegerHull falling = new IntegerHull();
        falling.condition(1, 1, 40);
        falling.condition(-1, -1, -40);
        flat("falling", falling, 41);
        check.due("falling: corner(0)", falling.corner(0), Regions.at(0, 40));
        check.due("falling: corner(1)", falling.corner(1), Regions.at(40, 0));
        check.due("falling: corner(2)", falling.corner(2), NONE);
    }

    /** A hull without area, all of whose points are on its border. */
    private static void flat(String name, IntegerHull hull, int points) {
        check.due(name + ": points()", hull.points(), points);
        check.due(name + ": corners()", hull.corners(), points < 2 ? points : 2);
        check.due(name + ": area2()", hull.area2(), 0);
        check.due(name + ": border()", hull.border(), points);
        int[] bad = {-1, 2, 82, LEAST, GREATEST};
        for (int i : bad) {
            check.due(name + ": corner(" + i + ")", hull.corner(i), NONE);
        }
    }

    private static void cornersOverEmptyColumns() {
        IntegerHull line = new IntegerHull();
        line.condition(1, -3, 0);
        line.condition(-1, 3, 0);
        flat("every third column", line, 14);
        check.due("every third column: corner(0)", line.corner(0), Regions.at(0, 0));
        check.due("every third column: corner(1)", line.corner(1), Regions.at(39, 13));
        check.due("every third column: column(1)", line.column(1), 0);
        check.due("every third column: column(3)", line.column(3), 1);

        // 2 * x = 3 * y or one more: (0, 0), (2, 1), (3, 2), (5, 3), (6, 4) ... with columns between them empty.
        IntegerHull thin = new IntegerHull();
        thin.condition(-2, 3, 0);
        thin.condition(2, -3, 1);
        thin.condition(1, 0, 6);
        check.due("thin: points()", thin.points(), 5);
        check.due("thin: column(1)", thin.column(1), 0);
        check.due("thin: corners()", thin.corners(), 4);
        check.due("thin: corner(0)", thin.corner(0), Regions.at(0, 0));
        check.due("thin: corner(1)", thin.corner(1), Regions.at(2, 1));
        check.due("thin: corner(2)", thin.corner(2), Regions.at(5, 3));
        check.due("thin: corner(3)", thin.corner(3), Regions.at(6, 4));
        check.due("thin: border()", thin.border(), 5);
        check.due("thin: area2()", thin.area2(), 3);
    }

    private static void cornersInOrder() {
        IntegerHull hull = Regions.triangle(3);
        check.due("triangle: corners()", hull.corners(), 3);
        check.due("triangle: corner(0)", hull.corner(0), Regions.at(0, 0));
        check.due("triangle: corner(1)", hull.corner(1), Regions.at(3, 0));
        check.due("triangle: corner(2)", hull.corner(2), Regions.at(0, 3));
        check.due("triangle: corner(3)", hull.corner(3), NONE);
        check.due("triangle: corner(-1)", hull.corner(-1), NONE);

        // The region's own corner (1.5, 1.5) is not whole, so the hull is cut back from it.
        IntegerHull cut = new IntegerHull();
        cut.condition(2, 0, 3);
        cut.condition(0, 2, 3);
        check.due("cut: corners()", cut.corners(), 4);
        check.due("cut: corner(2)", cut.corner(2), Regions.at(1, 1));

        // A point in the leftmost column alone: it is number 0 although others lie lower.
        IntegerHull tip = new IntegerHull();
        tip.condition(-1, -1, -4);
        tip.condition(-1, 1, 4);
        tip.condition(1, 0, 4);
        check.due("tip: corners()", tip.corners(), 3);
        check.due("tip: corner(0)", tip.corner(0), Regions.at(0, 4));
        check.due("tip: corner(1)", tip.corner(1), Regions.at(4, 0));
        check.due("tip: corner(2)", tip.corner(2), Regions.at(4, 8));
    }

    private static void areaAndBorder() {
        IntegerHull hull = Regions.triangle(3);
        check.due("triangle: area2()", hull.area2(), 9);
        check.due("triangle: border()", hull.border(), 9);
        IntegerHull small = Regions.box(3, 5, 10, 13);
        check.due("box: points()", small.points(), 12);
        check.due("box: area2()", small.area2(), 12);
        check.due("box: border()", small.border(), 10);
        check.due("least box: area2()", Regions.box(39, 40, 39, 40).area2(), 2);
        check.due("least box: border()", Regions.box(39, 40, 39, 40).border(), 4);
        IntegerHull half = new IntegerHull();
        half.condition(-1, 1, 0);
        check.due("half: points()", half.points(), 861);
        check.due("half: area2()", half.area2(), 1600);
        check.due("half: border()", half.border(), 120);
    }

    private static void bestValues() {
        IntegerHull hull = Regions.box(3, 5, 10, 13);
        check.due("box: best(1, 0)", hull.best(1, 0), 5);
        check.due("box: best(-1, 0)", hull.best(-1, 0), -3);
        check.due("box: best(0, 1)", hull.best(0, 1), 13);
        check.due("box: best(0, -1)", hull.best(0, -1), -10);
        check.due("box: best(0, 0)", hull.best(0, 0), 0);
        check.due("box: best(100, -100)", hull.best(100, -100), -500);
        check.due("box: best(-100, 100)", hull.best(-100, 100), 1000);
        // The same numbers as the constants, but values here.
        check.due("at (1, 0): best(-1, 0)", Regions.box(1, 1, 0, 0).best(-1, 0), -1);
        check.due("at (2, 0): best(-1, 0)", Regions.box(2, 2, 0, 0).best(-1, 0), -2);
        check.due("square: best(-100, -100)", new IntegerHull().best(-100, -100), 0);
        check.due("far point: best(-100, -100)", Regions.box(40, 40, 40, 40).best(-100, -100), -8000);
    }

    private static void bestRefuses() {
        int[] bad = {-101, 101, LEAST, GREATEST, LEAST + 100};
        IntegerHull[] hulls = {new IntegerHull(), Regions.withoutPoints()};
        for (IntegerHull hull : hulls) {
            for (int out : bad) {
                check.due("best(" + out + ", 0)", hull.best(out, 0), BAD_FACTOR);
                check.due("best(0, " + out + ")", hull.best(0, out), BAD_FACTOR);
                check.due("bestCorner(" + out + ", 0)", hull.bestCorner(out, 0), BAD_FACTOR);
                check.due("bestCorner(0, " + out + ")", hull.bestCorner(0, out), BAD_FACTOR);
            }
        }
        check.due("no points: best(100, -100)", Regions.withoutPoints().best(100, -100), NONE);
        check.due("no points: bestCorner(-100, 100)", Regions.withoutPoints().bestCorner(-100, 100), NONE);
        check.due("no points: best(0, 0)", Regions.withoutPoints().best(0, 0), NONE);
        check.due("no points: bestCorner(0, 0)", Regions.withoutPoints().bestCorner(0, 0), NONE);
    }

    private static void bestCornerTies() {
        IntegerHull hull = Regions.box(3, 5, 10, 13);
        check.due("box: bestCorner(0, 0)", hull.bestCorner(0, 0), 0);
        check.due("box: bestCorner(1, 0)", hull.bestCorner(1, 0), 1);
        check.due("box: bestCorner(0, 1)", hull.bestCorner(0, 1), 2);
        // Corners 0 and 3 both reach it; 3 comes right before 0 on the way round, but the number decides.
        check.due("box: bestCorner(-1, 0)", hull.bestCorner(-1, 0), 0);
        check.due("box: bestCorner(0, -1)", hull.bestCorner(0, -1), 0);
        check.due("box: bestCorner(-100, 100)", hull.bestCorner(-100, 100), 3);
        check.due("one point: bestCorner(-7, 3)", Regions.box(7, 7, 5, 5).bestCorner(-7, 3), 0);
        check.due("upright: bestCorner(-7, 3)", Regions.box(7, 7, 2, 6).bestCorner(-7, 3), 1);
        check.due("upright: bestCorner(-7, 0)", Regions.box(7, 7, 2, 6).bestCorner(-7, 0), 0);
    }

    private static void questionsChangeNothing() {
        IntegerHull hull = Regions.triangle(3);
        for (int round = 0; round < 40; round++) {
            check.due("round " + round + ": points()", hull.points(), 10);
            check.due("round " + round + ": has(1, 1)", hull.has(1, 1), true);
            check.due("round " + round + ": corners()", hull.corners(), 3);
            check.due("round " + round + ": corner(2)", hull.corner(2), Regions.at(0, 3));
            check.due("round " + round + ": area2()", hull.area2(), 9);
            check.due("round " + round + ": border()", hull.border(), 9);
            check.due("round " + round + ": best(3, 1)", hull.best(3, 1), 9);
            check.due("round " + round + ": bestCorner(3, 1)", hull.bestCorner(3, 1), 1);
            check.due("round " + round + ": column(2)", hull.column(2), 2);
        }
        check.due("after the rounds: shift(0, 2)", hull.shift(0, 2), 3);
        check.due("after the rounds: drop()", hull.drop(), 0);
    }

    private static void objectsStandAlone() {
        IntegerHull one = Regions.triangle(3);
        IntegerHull two = new IntegerHull();
        two.condition(1, 0, 0);
        check.due("one of two: points()", one.points(), 10);
        check.due("two of two: points()", two.points(), 41);
        one.drop();
        check.due("two of two, after a drop in one: points()", two.points(), 41);
    }
}

/** Objects with conditions that the tests have in common. */
final class Regions {
    private Regions() {
    }

    static IntegerHull of(int[]... conditions) {
        IntegerHull hull = new IntegerHull();
        for (int[] condition : conditions) {
            hull.condition(condition[0], condition[1], condition[2]);
        }
        return hull;
    }

    static IntegerHull square() {
        return new IntegerHull();
    }

    static IntegerHull withoutPoints() {
        return of(new int[] {1, 1, -1});
    }

    static IntegerHull box(int left, int right, int bottom, int top) {
        return of(new int[] {1, 0, right}, new int[] {-1, 0, -left}, new int[] {0, 1, top}, new int[] {0, -1, -bottom});
    }

    static IntegerHull point(int x, int y) {
        return box(x, x, y, y);
    }

    /** The lattice points of the line a * x + b * y = c. */
    static IntegerHull line(int a, int b, int c) {
        return of(new int[] {a, b, c}, new int[] {-a, -b, -c});
    }

    /** x + y <= side. */
    static IntegerHull triangle(int side) {
        return of(new int[] {1, 1, side});
    }

    /** Eight conditions, each with an edge of its own: 381 points, 8 corners, 60 points on the border. */
    static IntegerHull octagon() {
        return of(new int[] {1, 0, 30}, new int[] {-1, 0, -10}, new int[] {0, 1, 30}, new int[] {0, -1, -10},
                new int[] {1, 1, 55}, new int[] {-1, -1, -25}, new int[] {1, -1, 15}, new int[] {-1, 1, 15});
    }

    /** A corner as the document tells it. */
    static int at(int x, int y) {
        return x + 64 * y;
    }
}

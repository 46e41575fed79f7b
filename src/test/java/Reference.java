import java.util.ArrayList;
import java.util.List;

/**
 * The answers that are due, worked out from the words of the document alone: by looking at all 41 * 41 points and by the
 * document's own meaning of a corner. It shares no way of working with the class under test.
 */
final class Reference {
    private static final int BAD_FACTOR = -1;
    private static final int FULL = -2;
    private static final int NONE = -3;

    private final List<int[]> conditions = new ArrayList<>();
    private List<int[]> lattice;
    // The lattice points without those that have all four neighbours: such a point lies inside its neighbours' hull, so
    // it is no corner and not on the border, and the hull stays the same without it.
    private List<int[]> outer;
    private List<int[]> corners;

    Reference() {
        changed();
    }

    int condition(int a, int b, int c) {
        boolean factorsFit = Math.abs((long) a) <= 9 && Math.abs((long) b) <= 9 && (a != 0 || b != 0);
        if (!factorsFit || Math.abs((long) c) > 1000) {
            return BAD_FACTOR;
        }
        if (conditions.size() == 8) {
            return FULL;
        }
        conditions.add(new int[] {a, b, c});
        changed();
        return conditions.size();
    }

    int drop() {
        if (conditions.isEmpty()) {
            return NONE;
        }
        conditions.remove(conditions.size() - 1);
        changed();
        return conditions.size();
    }

    int shift(int i, int c) {
        if (i < 0 || i >= conditions.size()) {
            return NONE;
        }
        if (Math.abs((long) c) > 1000) {
            return BAD_FACTOR;
        }
        int old = conditions.get(i)[2];
        conditions.get(i)[2] = c;
        changed();
        return old;
    }

    int points() {
        return lattice.size();
    }

    boolean has(int x, int y) {
        return lattice.stream().anyMatch(point -> point[0] == x && point[1] == y);
    }

    int corners() {
        return corners.size();
    }

    int corner(int i) {
        return i < 0 || i >= corners.size() ? NONE : corners.get(i)[0] + 64 * corners.get(i)[1];
    }

    int area2() {
        int sum = 0;
        for (int i = 2; i < corners.size(); i++) {
            sum += cross(corners.get(0), corners.get(i - 1), corners.get(i));
        }
        return sum;
    }

    /** A point is on the border if some line through it has all lattice points on one side or on the line. */
    int border() {
        int sum = 0;
        for (int[] point : outer) {
            if (outer.size() == 1 || hasSupportingLine(point)) {
                sum++;
            }
        }
        return sum;
    }

    int best(int p, int q) {
        if (Math.abs((long) p) > 100 || Math.abs((long) q) > 100) {
            return BAD_FACTOR;
        }
        return lattice.stream().mapToInt(point -> p * point[0] + q * point[1]).max().orElse(NONE);
    }

    int bestCorner(int p, int q) {
        if (Math.abs((long) p) > 100 || Math.abs((long) q) > 100) {
            return BAD_FACTOR;
        }
        int greatest = best(p, q);
        for (int i = 0; i < corners.size(); i++) {
            if (p * corners.get(i)[0] + q * corners.get(i)[1] == greatest) {
                return i;
            }
        }
        return NONE;
    }

    int column(int x) {
        return (int) lattice.stream().filter(point -> point[0] == x).count();
    }

    private void changed() {
        lattice = new ArrayList<>();
        outer = new ArrayList<>();
        for (int x = 0; x <= 40; x++) {
            for (int y = 0; y <= 40; y++) {
                if (fulfils(x, y)) {
                    int[] point = {x, y};
                    lattice.add(point);
                    if (!isSurrounded(point)) {
                        outer.add(point);
                    }
                }
            }
        }
        corners = new ArrayList<>();
        for (int[] point : outer) {
            if (isCorner(point)) {
                corners.add(point);
            }
        }
        if (!corners.isEmpty()) {
            // The points are listed by x, then by y, so the first corner found is the one numbered 0.
            int[] start = corners.remove(0);
            corners.sort((one, two) -> Integer.signum(cross(start, two, one)));
            corners.add(0, start);
        }
    }

    private boolean isSurrounded(int[] point) {
        int x = point[0];
        int y = point[1];
        return inside(x - 1, y) && inside(x + 1, y) && inside(x, y - 1) && inside(x, y + 1);
    }

    private boolean inside(int x, int y) {
        return x >= 0 && x <= 40 && y >= 0 && y <= 40 && fulfils(x, y);
    }

    private boolean fulfils(int x, int y) {
        for (int[] condition : conditions) {
            if (condition[0] * x + condition[1] * y > condition[2]) {
                return false;
            }
        }
        return true;
    }

    /**
     * A point is outside the convex hull of the others if, seen from it, they all lie within less than half a turn: then
     * one of them is the rightmost, and none of the others lies to its right or straight behind the point.
     */
    private boolean isCorner(int[] point) {
        if (outer.size() == 1) {
            return true;
        }
        for (int[] rightmost : outer) {
            if (rightmost != point && allWithinHalfTurn(point, rightmost)) {
                return true;
            }
        }
        return false;
    }

    private boolean allWithinHalfTurn(int[] point, int[] rightmost) {
        for (int[] other : outer) {
            int side = cross(point, rightmost, other);
            boolean behind = side == 0 && other != point && dot(point, rightmost, other) < 0;
            if (side < 0 || behind) {
                return false;
            }
        }
        return true;
    }

    private boolean hasSupportingLine(int[] point) {
        for (int[] through : outer) {
            if (through != point && noneToTheRight(point, through)) {
                return true;
            }
        }
        return false;
    }

    private boolean noneToTheRight(int[] point, int[] through) {
        for (int[] other : outer) {
            if (cross(point, through, other) < 0) {
                return false;
            }
        }
        return true;
    }

    private static int cross(int[] from, int[] over, int[] to) {
        return (over[0] - from[0]) * (to[1] - from[1]) - (over[1] - from[1]) * (to[0] - from[0]);
    }

    private static int dot(int[] from, int[] one, int[] two) {
        return (one[0] - from[0]) * (two[0] - from[0]) + (one[1] - from[1]) * (two[1] - from[1]);
    }
}

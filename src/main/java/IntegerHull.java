/**
 * Points with whole coordinates inside a convex region.
 *
 * <p>The columns and the corners are worked out when the conditions change, so that the calls that only ask read them
 * and write nothing.
 */
public final class IntegerHull {
    public static final int BAD_FACTOR = -1;
    public static final int FULL = -2;
    public static final int NONE = -3;

    private static final int SIDE = 40;
    private static final int COLUMNS = SIDE + 1;
    private static final int MOST_CONDITIONS = 8;
    private static final int MOST_FACTOR = 9;
    private static final int MOST_LIMIT = 1000;
    private static final int MOST_WEIGHT = 100;
    private static final int CORNER_STRIDE = 64;

    // Each column adds at most one point to the lower chain and one to the upper chain.
    private static final int MOST_CORNERS = 2 * COLUMNS;

    private final int[] factorA = new int[MOST_CONDITIONS];
    private final int[] factorB = new int[MOST_CONDITIONS];
    private final int[] limit = new int[MOST_CONDITIONS];
    private int conditionCount;

    // The region is convex, so the lattice points of a column have no gap: the least and the greatest y tell them all.
    // An empty column has 0 and -1, so that the count and the test for a point need no case of their own.
    private final int[] lowest = new int[COLUMNS];
    private final int[] highest = new int[COLUMNS];

    private final int[] cornerX = new int[MOST_CORNERS];
    private final int[] cornerY = new int[MOST_CORNERS];
    private int cornerCount;

    public IntegerHull() {
        conditionCount = 0;
        refresh();
    }

    public int condition(int a, int b, int c) {
        if (!within(a, MOST_FACTOR) || !within(b, MOST_FACTOR) || !within(c, MOST_LIMIT)) {
            return BAD_FACTOR;
        }
        if (a == 0 && b == 0) {
            return BAD_FACTOR;
        }
        if (conditionCount >= MOST_CONDITIONS) {
            return FULL;
        }
        factorA[conditionCount] = a;
        factorB[conditionCount] = b;
        limit[conditionCount] = c;
        conditionCount++;
        refresh();
        return conditionCount;
    }

    public int drop() {
        if (conditionCount == 0) {
            return NONE;
        }
        conditionCount--;
        refresh();
        return conditionCount;
    }

    public int shift(int i, int c) {
        if (i < 0 || i >= conditionCount) {
            return NONE;
        }
        if (!within(c, MOST_LIMIT)) {
            return BAD_FACTOR;
        }
        int old = limit[i];
        limit[i] = c;
        refresh();
        return old;
    }

    public int points() {
        int sum = 0;
        for (int x = 0; x <= SIDE; x++) {
            sum += column(x);
        }
        return sum;
    }

    public boolean has(int x, int y) {
        return onGrid(x) && y >= lowest[x] && y <= highest[x];
    }

    public int corners() {
        return cornerCount;
    }

    public int corner(int i) {
        if (i < 0 || i >= cornerCount) {
            return NONE;
        }
        return cornerX[i] + CORNER_STRIDE * cornerY[i];
    }

    public int area2() {
        int sum = 0;
        for (int i = 0; i < cornerCount; i++) {
            int j = cornerAfter(i);
            sum += cornerX[i] * cornerY[j] - cornerX[j] * cornerY[i];
        }
        return sum;
    }

    public int border() {
        int sum = 0;
        for (int x = 0; x <= SIDE; x++) {
            for (int y = lowest[x]; y <= highest[x]; y++) {
                if (onEdge(x, y)) {
                    sum++;
                }
            }
        }
        return sum;
    }

    public int best(int p, int q) {
        int i = bestCorner(p, q);
        // A number below 0 is no corner but the reason why there is none, and the two calls share their reasons.
        return i < 0 ? i : p * cornerX[i] + q * cornerY[i];
    }

    // The greatest value over all lattice points is reached at a corner, so the corners are enough.
    public int bestCorner(int p, int q) {
        if (!within(p, MOST_WEIGHT) || !within(q, MOST_WEIGHT)) {
            return BAD_FACTOR;
        }
        if (cornerCount == 0) {
            return NONE;
        }
        int found = 0;
        int greatest = p * cornerX[0] + q * cornerY[0];
        for (int i = 1; i < cornerCount; i++) {
            int value = p * cornerX[i] + q * cornerY[i];
            if (value > greatest) {
                found = i;
                greatest = value;
            }
        }
        return found;
    }

    public int column(int x) {
        if (!onGrid(x)) {
            return 0;
        }
        return highest[x] - lowest[x] + 1;
    }

    // Two comparisons, not an absolute value: the least int has none.
    private static boolean within(int value, int most) {
        return value >= -most && value <= most;
    }

    private static boolean onGrid(int coordinate) {
        return coordinate >= 0 && coordinate <= SIDE;
    }

    private void refresh() {
        for (int x = 0; x <= SIDE; x++) {
            measureColumn(x);
        }
        traceHull();
    }

    private void measureColumn(int x) {
        int low = 0;
        int high = -1;
        for (int y = 0; y <= SIDE; y++) {
            if (fulfilsAll(x, y)) {
                if (high < 0) {
                    low = y;
                }
                high = y;
            }
        }
        lowest[x] = low;
        highest[x] = high;
    }

    private boolean fulfilsAll(int x, int y) {
        for (int i = 0; i < conditionCount; i++) {
            if (factorA[i] * x + factorB[i] * y > limit[i]) {
                return false;
            }
        }
        return true;
    }

    // The lower chain from left to right and the upper chain back give the corners counterclockwise, from the leftmost,
    // lowest one on.
    private void traceHull() {
        cornerCount = 0;
        for (int x = 0; x <= SIDE; x++) {
            if (lowest[x] <= highest[x]) {
                extendChain(0, x, lowest[x]);
            }
        }
        if (cornerCount == 0) {
            return;
        }
        // A rightmost column of one point gives that point twice; two equal points make no turn, so the next point of the
        // chain takes the second one back.
        int turningPoint = cornerCount - 1;
        for (int x = SIDE; x >= 0; x--) {
            if (lowest[x] <= highest[x]) {
                extendChain(turningPoint, x, highest[x]);
            }
        }
        // A leftmost column of one point ends the upper chain where the lower one began.
        int last = cornerCount - 1;
        if (last > 0 && cornerX[last] == cornerX[0] && cornerY[last] == cornerY[0]) {
            cornerCount = last;
        }
    }

    // Takes back the corners, down to the chain's first one, at which the way to (x, y) would not turn left.
    private void extendChain(int first, int x, int y) {
        while (cornerCount >= first + 2 && turn(cornerCount - 2, cornerCount - 1, x, y) <= 0) {
            cornerCount--;
        }
        cornerX[cornerCount] = x;
        cornerY[cornerCount] = y;
        cornerCount++;
    }

    // Above 0 if the way from corner i over corner j to (x, y) turns left, 0 if the three lie on one line.
    private int turn(int i, int j, int x, int y) {
        return (cornerX[j] - cornerX[i]) * (y - cornerY[i]) - (cornerY[j] - cornerY[i]) * (x - cornerX[i]);
    }

    private int cornerAfter(int i) {
        return i + 1 < cornerCount ? i + 1 : 0;
    }

    // A point of the hull lies on an edge if it lies on the edge's line. With one corner or two every point does, as is
    // due where the hull has no area.
    private boolean onEdge(int x, int y) {
        for (int i = 0; i < cornerCount; i++) {
            int j = cornerAfter(i);
            if (turn(i, j, x, y) == 0) {
                return true;
            }
        }
        return false;
    }
}

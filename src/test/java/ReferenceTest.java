/** Many regions, made by a fixed row of numbers, each asked everything and held against the reference. */
public final class ReferenceTest {
    private static final int RUNS = 400;
    // A change with the questions after it takes under 64 calls, so that a run stays within the document's 512.
    private static final int CHANGES = 8;

    private static final Check check = new Check();
    private static long state = 20261115L;

    public static void main(String[] args) {
        for (int run = 0; run < RUNS; run++) {
            oneRun(run);
        }
        check.end();
    }

    private static void oneRun(int run) {
        IntegerHull hull = new IntegerHull();
        Reference reference = new Reference();
        StringBuilder story = new StringBuilder("run " + run + ":");
        for (int step = 0; step < CHANGES; step++) {
            change(hull, reference, story);
            ask(hull, reference, story.toString());
        }
    }

    private static void change(IntegerHull hull, Reference reference, StringBuilder story) {
        int kind = between(0, 9);
        if (kind <= 5) {
            int a = between(-9, 9);
            int b = between(-9, 9);
            int c = limitNear(a, b);
            story.append(" condition(").append(a).append(", ").append(b).append(", ").append(c).append(")");
            check.due(story.toString(), hull.condition(a, b, c), reference.condition(a, b, c));
        } else if (kind <= 7) {
            int i = between(-1, 8);
            int c = between(-300, 500);
            story.append(" shift(").append(i).append(", ").append(c).append(")");
            check.due(story.toString(), hull.shift(i, c), reference.shift(i, c));
        } else {
            story.append(" drop()");
            check.due(story.toString(), hull.drop(), reference.drop());
        }
    }

    /** Most conditions cut the region near some inner point, so that thin regions and single points are common. */
    private static int limitNear(int a, int b) {
        return a * between(14, 26) + b * between(14, 26) + between(-3, 6);
    }

    private static void ask(IntegerHull hull, Reference reference, String story) {
        check.due(story + " points()", hull.points(), reference.points());
        check.due(story + " corners()", hull.corners(), reference.corners());
        for (int n = 0; n < 10; n++) {
            int i = between(-1, reference.corners());
            check.due(story + " corner(" + i + ")", hull.corner(i), reference.corner(i));
        }
        check.due(story + " area2()", hull.area2(), reference.area2());
        check.due(story + " border()", hull.border(), reference.border());
        for (int n = 0; n < 10; n++) {
            int x = between(-1, 41);
            check.due(story + " column(" + x + ")", hull.column(x), reference.column(x));
            int nearX = between(10, 30);
            int y = between(10, 30);
            check.due(story + " has(" + nearX + ", " + y + ")", hull.has(nearX, y), reference.has(nearX, y));
        }
        for (int n = 0; n < 12; n++) {
            // Small weights are often square to an edge, so that two corners reach the greatest value.
            int reach = n < 8 ? 4 : 101;
            int p = between(-reach, reach);
            int q = between(-reach, reach);
            check.due(story + " best(" + p + ", " + q + ")", hull.best(p, q), reference.best(p, q));
            check.due(story + " bestCorner(" + p + ", " + q + ")", hull.bestCorner(p, q), reference.bestCorner(p, q));
        }
    }

    private static int between(int least, int most) {
        state = state * 6364136223846793005L + 1442695040888963407L;
        return least + (int) ((state >>> 33) % (most - least + 1));
    }
}

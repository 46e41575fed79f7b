import java.util.function.Consumer;
import java.util.function.Supplier;

/** Everything that an object answers, as one text, so that two objects can be held against each other. */
final class Answers {
    private static final int[][] WEIGHTS = {{1, 0}, {0, 1}, {-1, 0}, {0, -1}, {3, 2}, {-2, 5}, {-100, -99}, {7, -100}};

    private Answers() {
    }

    /**
     * Compares an object on which a call was made with one on which it was not, in everything that they answer: now, and
     * after changes that bring every condition to light.
     */
    static void unchanged(Check check, String call, Supplier<IntegerHull> made, Consumer<IntegerHull> calling) {
        IntegerHull called = made.get();
        calling.accept(called);
        check.due("all answers after " + call, ofAll(called), ofAll(made.get()));
    }

    /** Takes under 300 calls and uses the object up. */
    private static String ofAll(IntegerHull hull) {
        StringBuilder text = new StringBuilder(ofRegion(hull));
        for (int i = -1; i <= 8; i++) {
            appendCondition(text, hull, i);
        }
        for (int n = 0; n <= 8; n++) {
            text.append(" drop:").append(hull.drop());
            appendShape(text, hull);
        }
        text.append(" condition:").append(hull.condition(2, 3, 77));
        appendShape(text, hull);
        return text.toString();
    }

    /** All that the nine asking calls answer, without a change: under 90 calls. */
    private static String ofRegion(IntegerHull hull) {
        StringBuilder text = new StringBuilder();
        appendShape(text, hull);
        for (int i = -1; i <= 8; i++) {
            text.append(" corner:").append(hull.corner(i));
        }
        for (int x = -1; x <= 41; x++) {
            text.append(" column:").append(hull.column(x));
        }
        for (int[] weight : WEIGHTS) {
            text.append(" best:").append(hull.best(weight[0], weight[1]));
            text.append(" bestCorner:").append(hull.bestCorner(weight[0], weight[1]));
        }
        for (int n = 0; n <= 40; n += 5) {
            text.append(" has:").append(hull.has(n, 20));
        }
        return text.toString();
    }

    /** A condition's c is answered by the shift away from it, its a and b show in the region that is left then. */
    private static void appendCondition(StringBuilder text, IntegerHull hull, int i) {
        int old = hull.shift(i, 20);
        text.append(" shift:").append(old);
        appendShape(text, hull);
        hull.shift(i, old);
    }

    private static void appendShape(StringBuilder text, IntegerHull hull) {
        text.append(" points:").append(hull.points());
        text.append(" corners:").append(hull.corners());
        text.append(" corner:").append(hull.corner(0));
        text.append(" area2:").append(hull.area2());
        text.append(" border:").append(hull.border());
    }
}

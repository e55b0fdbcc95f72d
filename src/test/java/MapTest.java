/** Promises 1 to 5: a new object, set, wall, weight, fade. */
public final class MapTest {
    private static final int LOW = Integer.MIN_VALUE;
    private static final int HIGH = Integer.MAX_VALUE;
    private static final Check check = new Check("MapTest");

    public static void main(String[] args) {
        promise1NewObject();
        promise2Set();
        promise3WallRight();
        promise3WallDown();
        promise3WallOverwrites();
        promise4Weight();
        promise5Fade();
        objectsAreApart();
        check.end();
    }

    private static void promise1NewObject() {
        ScanMatcher m = new ScanMatcher();
        check.map("new", m);
        check.due("new: points()", m.points(), 1);
        m.set(3, 4, 6);
        check.due("new: the one point is (0, 0): score(16 * 4 + 3)", m.score(67), 6);
        check.due("new: match()", m.match(), 67);
        check.due("new: atLeast(1)", m.atLeast(1), 4);
    }

    private static void promise2Set() {
        ScanMatcher m = new ScanMatcher();
        check.due("set(3, 4, 9)", m.set(3, 4, 9), 0);
        check.due("weight(3, 4)", m.weight(3, 4), 9);
        check.due("weight(4, 3)", m.weight(4, 3), 0);
        check.due("set(3, 4, 2)", m.set(3, 4, 2), 9);
        check.due("set(3, 4, 0)", m.set(3, 4, 0), 2);
        check.due("set(3, 4, 1)", m.set(3, 4, 1), 0);
        check.due("set(0, 0, 5)", m.set(0, 0, 5), 0);
        check.due("set(15, 0, 6)", m.set(15, 0, 6), 0);
        check.due("set(0, 15, 7)", m.set(0, 15, 7), 0);
        check.due("set(15, 15, 8)", m.set(15, 15, 8), 0);
        check.map("set corners", m, 3, 4, 1, 0, 0, 5, 15, 0, 6, 0, 15, 7, 15, 15, 8);
    }

    private static void promise3WallRight() {
        ScanMatcher m = new ScanMatcher();
        check.due("wall right of 3", m.wall(4, 5, 0, 16 * 3 + 7), 3);
        check.map("wall right", m, 4, 5, 7, 5, 5, 7, 6, 5, 7);
        m = new ScanMatcher();
        check.due("wall right of 16", m.wall(0, 15, 0, 16 * 16 + 9), 16);
        for (int x = 0; x < 16; x++) {
            check.due("wall right of 16: weight(" + x + ", 15)", m.weight(x, 15), 9);
            check.due("wall right of 16: weight(" + x + ", 14)", m.weight(x, 14), 0);
        }
    }

    private static void promise3WallDown() {
        for (int down : new int[] {1, 2, -1, LOW, HIGH, 16}) {
            ScanMatcher m = new ScanMatcher();
            check.due("wall down of 3, down = " + down, m.wall(4, 5, down, 16 * 3 + 7), 3);
            check.map("wall down = " + down, m, 4, 5, 7, 4, 6, 7, 4, 7, 7);
        }
        ScanMatcher m = new ScanMatcher();
        check.due("wall down of 16", m.wall(15, 0, 1, 16 * 16 + 9), 16);
        for (int y = 0; y < 16; y++) {
            check.due("wall down of 16: weight(15, " + y + ")", m.weight(15, y), 9);
            check.due("wall down of 16: weight(14, " + y + ")", m.weight(14, y), 0);
        }
    }

    private static void promise3WallOverwrites() {
        ScanMatcher m = new ScanMatcher();
        m.wall(2, 2, 0, 16 * 5 + 8);
        check.due("wall of lesser weight", m.wall(3, 2, 0, 16 * 2 + 3), 2);
        check.due("weight(2, 2)", m.weight(2, 2), 8);
        check.due("wall of weight 0", m.wall(2, 1, 1, 16 * 2), 2);
        check.due("wall of no cells", m.wall(5, 2, 0, 9), 0);
        check.due("wall of no cells", m.wall(5, 2, 1, 0), 0);
        check.map("overwritten", m, 3, 2, 3, 4, 2, 3, 5, 2, 8, 6, 2, 8);
    }

    private static void promise4Weight() {
        ScanMatcher m = new ScanMatcher();
        for (int y = 0; y < 16; y++) {
            m.wall(0, y, 0, 16 * 16 + 1 + y % 9);
        }
        for (int y = 0; y < 16; y++) {
            check.due("weight(7, " + y + ")", m.weight(7, y), 1 + y % 9);
        }
        int[] far = {-1, 16, -16, 17, 256, 1 << 28, LOW, HIGH};
        for (int a : far) {
            check.due("weight(" + a + ", 5)", m.weight(a, 5), 0);
            check.due("weight(5, " + a + ")", m.weight(5, a), 0);
            check.due("weight(" + a + ", " + a + ")", m.weight(a, a), 0);
        }
        check.due("weight changes nothing: weight(0, 0)", m.weight(0, 0), 1);
        check.due("weight changes nothing: weight(15, 15)", m.weight(15, 15), 7);
    }

    private static void promise5Fade() {
        ScanMatcher m = new ScanMatcher();
        check.due("fade() of an empty map", m.fade(), 0);
        check.map("faded empty", m);

        m = threeWeights();
        check.due("fade() once", m.fade(), 2);
        check.map("faded once", m, 15, 15, 1, 7, 8, 8);

        m = threeWeights();
        m.fade();
        check.due("fade() twice", m.fade(), 1);
        check.map("faded twice", m, 7, 8, 7);

        m = threeWeights();
        m.fade();
        m.fade();
        for (int left = 6; left >= 1; left--) {
            check.due("fade() to " + left, m.fade(), 1);
            check.due("faded to " + left, m.weight(7, 8), left);
        }
        check.due("fade() to 0", m.fade(), 0);
        check.due("fade() of what is gone", m.fade(), 0);
        check.map("all faded", m);

        m = new ScanMatcher();
        Scene.fill(m, 2);
        check.due("fade() of a full map", m.fade(), 256);
        check.due("fade() of a map of ones", m.fade(), 0);
    }

    private static ScanMatcher threeWeights() {
        ScanMatcher m = new ScanMatcher();
        m.set(0, 0, 1);
        m.set(15, 15, 2);
        m.set(7, 8, 9);
        return m;
    }

    private static void objectsAreApart() {
        ScanMatcher one = new ScanMatcher();
        ScanMatcher two = new ScanMatcher();
        one.set(1, 1, 5);
        one.point(1, 1);
        check.map("the other object", two);
        check.due("the other object's points()", two.points(), 1);
    }
}

import java.util.Arrays;

/** The boundary cases that promises 6 to 10 name, a test for each sentence. */
public final class ScanEdgeTest {
    private static final int BAD = ScanMatcher.BAD_ARG;
    private static final int FULL = ScanMatcher.FULL;
    private static final int NONE = ScanMatcher.NONE;
    private static final int[] SIDE = {0, 15};
    private static final int[] REACH = {-7, 7};
    private static final int[] ADDED = {1, 9};
    private static final Check check = new Check("ScanEdgeTest");

    public static void main(String[] args) {
        check.sentence("6: The scan becomes the one point (u, v)", ScanEdgeTest::scanOfAFullOne);
        check.sentence("6: BAD_ARG if u or v is not -7 to 7", ScanEdgeTest::scanRefused);
        check.sentence("6: otherwise 1", ScanEdgeTest::scanOfEachPoint);
        check.sentence("7: Appends the point (u, v) to the scan.", ScanEdgeTest::pointOfEachPoint);
        check.sentence("7: u or v not -7 to 7 answers BAD_ARG", ScanEdgeTest::pointRefused);
        check.sentence("7: Tested in this order", ScanEdgeTest::pointOutOfRangeOfAFullScan);
        check.sentence("7: FULL", ScanEdgeTest::pointOfAFullScan);
        check.sentence("7: Otherwise the number of points.", ScanEdgeTest::pointCounts);
        check.sentence("8: with a weight of at least w", ScanEdgeTest::lookForEachWeight);
        check.sentence("8: |a - x| <= 7 and |b - y| <= 7", ScanEdgeTest::lookReach);
        check.sentence("8: in the order of b, then a", ScanEdgeTest::lookOrder);
        check.sentence("8: the first ten of them", ScanEdgeTest::lookTenAndEleven);
        check.sentence("8: BAD_ARG if x or y is not 0 to 15 or w not 1 to 9", ScanEdgeTest::lookRefused);
        check.sentence("8: NONE if there is no such cell (the scan stays)", ScanEdgeTest::lookAtNothing);
        check.sentence("8: Otherwise the number of points.", ScanEdgeTest::lookMakesTheScanShorter);
        check.sentence("9: (for each point once)", ScanEdgeTest::stampOfPointsAlike);
        check.sentence("9: up to 9", ScanEdgeTest::stampSums);
        check.sentence("9: BAD_ARG if p is not 0 to 1023 or w not 1 to 9.", ScanEdgeTest::stampRefused);
        check.sentence("9: every cell on which a point of the scan lies", ScanEdgeTest::stampInTheCorners);
        check.sentence("9: Otherwise the number of points that lie in the map.", ScanEdgeTest::stampPartlyOutside);
        check.sentence("10: The number of points of the scan.", ScanEdgeTest::points);
        check.end();
    }

    private static ScanMatcher fullScan() {
        return Scene.EMPTY_MAP_AND_TEN_POINTS.make();
    }

    private static void scanOfAFullOne() {
        ScanMatcher m = fullScan();
        check.due("scan(7, -7)", m.scan(7, -7), 1);
        check.scan("scan(7, -7)", m, 7, -7);
        m = fullScan();
        m.scan(1, 2);
        for (int n = 2; n <= 10; n++) {
            check.due("there is room again", m.point(1, 2), n);
        }
        check.due("until there are ten", m.point(1, 2), FULL);
    }

    private static void scanRefused() {
        check.ranges("scan", (m, a) -> m.scan(a[0], a[1]), REACH, REACH);
    }

    private static void scanOfEachPoint() {
        for (int u = -7; u <= 7; u++) {
            for (int v = -7; v <= 7; v++) {
                ScanMatcher m = fullScan();
                String call = "scan(" + u + ", " + v + ")";
                check.due(call, m.scan(u, v), 1);
                check.scan(call, m, u, v);
            }
        }
    }

    private static void pointOfEachPoint() {
        for (int u = -7; u <= 7; u++) {
            for (int v = -7; v <= 7; v++) {
                ScanMatcher m = new ScanMatcher();
                m.scan(-7, 0);
                String call = "point(" + u + ", " + v + ")";
                check.due(call, m.point(u, v), 2);
                check.scan(call, m, -7, 0, u, v);
            }
        }
    }

    private static void pointRefused() {
        check.ranges("point", (m, a) -> m.point(a[0], a[1]), REACH, REACH);
    }

    private static void pointOutOfRangeOfAFullScan() {
        int[][] outside = {{8, 0}, {-8, 0}, {0, 8}, {0, -8}, {8, 8}, {Integer.MIN_VALUE, Integer.MAX_VALUE}};
        for (int[] a : outside) {
            String call = "point(" + a[0] + ", " + a[1] + ")";
            check.changesNothing(Scene.EMPTY_MAP_AND_TEN_POINTS, call, BAD, m -> m.point(a[0], a[1]));
        }
    }

    private static void pointOfAFullScan() {
        for (int u : REACH) {
            for (int v : REACH) {
                String call = "point(" + u + ", " + v + ")";
                check.changesNothing(Scene.EMPTY_MAP_AND_TEN_POINTS, call, FULL, m -> m.point(u, v));
                check.changesNothing(Scene.ALL_NINES_AND_TEN_POINTS, call, FULL, m -> m.point(u, v));
            }
        }
        ScanMatcher m = new ScanMatcher();
        Scene.fill(m, 1);
        check.due("look() fills the scan as well", m.look(8, 8, 1), 10);
        check.due("point(0, 0) after a look at ten", m.point(0, 0), FULL);
    }

    private static void pointCounts() {
        ScanMatcher m = new ScanMatcher();
        for (int n = 2; n <= 9; n++) {
            check.due("the same point again, number " + n, m.point(0, 0), n);
        }
        check.due("the last one there is room for", m.point(7, 7), 10);
        check.due("one more", m.point(7, 7), FULL);
        check.scan("nine alike and one other", m, 0, 0, 0, 0, 0, 0, 0, 0, 0, 0, 0, 0, 0, 0, 0, 0, 0, 0, 7, 7);
    }

    private static void lookForEachWeight() {
        for (int w = 1; w <= 9; w++) {
            for (int weight = 0; weight <= 9; weight++) {
                ScanMatcher m = new ScanMatcher();
                m.set(6, 5, weight);
                check.due("look(5, 5, " + w + ") at " + weight, m.look(5, 5, w), weight >= w ? 1 : NONE);
            }
        }
    }

    /** Each cell of the map alone, as seen from the corners, from beside them and from the middle. */
    private static void lookReach() {
        for (int x : new int[] {0, 1, 7, 8, 14, 15}) {
            for (int y : new int[] {0, 1, 7, 8, 14, 15}) {
                for (int cell = 0; cell < 256; cell++) {
                    lookAtOneCell(x, y, cell % 16, cell / 16);
                }
            }
        }
    }

    private static void lookAtOneCell(int x, int y, int a, int b) {
        boolean seen = Math.abs(a - x) <= 7 && Math.abs(b - y) <= 7;
        ScanMatcher m = new ScanMatcher();
        m.set(a, b, 9);
        m.scan(1, 0);
        m.point(2, 0);
        String at = "look(" + x + ", " + y + ", 9) at (" + a + ", " + b + ")";
        check.due(at, m.look(x, y, 9), seen ? 1 : NONE);
        check.due(at + ": points()", m.points(), seen ? 1 : 2);
        if (seen) {
            check.due(at + ": score", m.score(16 * y + x), 9);
        }
    }

    private static void lookOrder() {
        ScanMatcher m = new ScanMatcher();
        Scene.fill(m, 5);
        m.look(8, 8, 5);
        check.scan("from the middle of a full map", m,
            -7, -7, -6, -7, -5, -7, -4, -7, -3, -7, -2, -7, -1, -7, 0, -7, 1, -7, 2, -7);
        m = new ScanMatcher();
        Scene.fill(m, 5);
        m.look(0, 0, 5);
        check.scan("from the first corner of a full map", m,
            0, 0, 1, 0, 2, 0, 3, 0, 4, 0, 5, 0, 6, 0, 7, 0, 0, 1, 1, 1);
        m = new ScanMatcher();
        Scene.fill(m, 5);
        m.look(15, 15, 5);
        check.scan("from the last corner of a full map", m,
            -7, -7, -6, -7, -5, -7, -4, -7, -3, -7, -2, -7, -1, -7, 0, -7, -7, -6, -6, -6);
        m = new ScanMatcher();
        m.wall(1, 2, 1, 16 * 9 + 5);
        m.wall(14, 1, 1, 16 * 2 + 5);
        m.look(8, 8, 5);
        check.scan("a cell far to the right in an upper row comes before one to the left below", m,
            6, -7, -7, -6, 6, -6, -7, -5, -7, -4, -7, -3, -7, -2, -7, -1, -7, 0, -7, 1);
    }

    private static void lookTenAndEleven() {
        int[] nine = {-3, 0, -2, 0, -1, 0, 0, 0, 1, 0, 2, 0, 3, 0, 4, 0, 5, 0};
        int[] ten = Arrays.copyOf(nine, 20);
        ten[18] = 6;
        lookAtARow(9, nine);
        lookAtARow(10, ten);
        lookAtARow(11, ten);
    }

    private static void lookAtARow(int cells, int[] uv) {
        ScanMatcher m = new ScanMatcher();
        m.wall(5, 8, 0, 16 * cells + 2);
        check.due("look at " + cells + " cells", m.look(8, 8, 2), uv.length / 2);
        check.scan("look at " + cells + " cells", m, uv);
    }

    private static void lookRefused() {
        check.ranges("look", (m, a) -> m.look(a[0], a[1], a[2]), SIDE, SIDE, ADDED);
    }

    private static void lookAtNothing() {
        check.changesNothing(Scene.NEW, "look(8, 8, 1)", NONE, m -> m.look(8, 8, 1));
        check.changesNothing(Scene.EMPTY_MAP_AND_TEN_POINTS, "look(0, 0, 1)", NONE, m -> m.look(0, 0, 1));
        check.changesNothing(Scene.BUSY, "look(4, 4, 8)", NONE, m -> m.look(4, 4, 8));
        ScanMatcher m = fullScan();
        Scene.fill(m, 8);
        check.due("look(8, 8, 9) at eights", m.look(8, 8, 9), NONE);
        check.due("points() after it", m.points(), 10);
        m = new ScanMatcher();
        m.set(8, 8, 1);
        m.scan(3, 3);
        m.fade();
        check.due("look(8, 8, 1) at what has faded", m.look(8, 8, 1), NONE);
        check.scan("look(8, 8, 1) at what has faded", m, 3, 3);
    }

    private static void lookMakesTheScanShorter() {
        ScanMatcher m = fullScan();
        m.set(8, 8, 9);
        check.due("look(8, 8, 9) at its own cell", m.look(8, 8, 9), 1);
        check.due("points()", m.points(), 1);
        check.due("point(1, 1)", m.point(1, 1), 2);
        check.scan("look(8, 8, 9) and point(1, 1)", m, 0, 0, 1, 1);
    }

    private static void stampOfPointsAlike() {
        for (int n = 1; n <= 10; n++) {
            for (int w : new int[] {1, 2, 9}) {
                ScanMatcher m = new ScanMatcher();
                for (int i = 2; i <= n; i++) {
                    m.point(0, 0);
                }
                String call = "stamp(1023, " + w + ") of " + n + " points on one cell";
                check.due(call, m.stamp(1023, w), n);
                check.map(call, m, 15, 15, Math.min(9, n * w));
            }
        }
    }

    private static void stampSums() {
        ScanMatcher m = new ScanMatcher();
        for (int before = 0; before <= 9; before++) {
            for (int w = 1; w <= 9; w++) {
                m.set(6, 2, before);
                check.due("stamp(38, " + w + ") on " + before, m.stamp(38, w), 1);
                check.due("weight after stamp(38, " + w + ") on " + before, m.weight(6, 2), Math.min(9, before + w));
            }
        }
    }

    private static void stampRefused() {
        check.ranges("stamp", (m, a) -> m.stamp(a[0], a[1]), new int[] {0, 1023}, ADDED);
    }

    private static void stampInTheCorners() {
        for (int r = 0; r < 4; r++) {
            for (int place : new int[] {0, 15, 240, 255}) {
                ScanMatcher m = new ScanMatcher();
                String call = "stamp(" + (256 * r + place) + ", 9)";
                check.due(call, m.stamp(256 * r + place, 9), 1);
                check.map(call, m, place % 16, place / 16, 9);
            }
        }
    }

    private static void stampPartlyOutside() {
        ScanMatcher m = new ScanMatcher();
        m.scan(-1, 0);
        m.point(0, -1);
        m.point(1, 0);
        m.point(0, 1);
        check.due("at (0, 0)", m.stamp(0, 1), 2);
        check.due("at (15, 15)", m.stamp(255, 2), 2);
        check.due("at (0, 8)", m.stamp(128, 3), 3);
        check.due("at (8, 0), turn 3", m.stamp(776, 4), 3);
        check.due("at (5, 5)", m.stamp(85, 5), 4);
        check.map("the cells inside alone get it", m, 1, 0, 1, 0, 1, 1, 14, 15, 2, 15, 14, 2, 0, 7, 3, 1, 8, 3, 0, 9, 3,
            7, 0, 4, 9, 0, 4, 8, 1, 4, 4, 5, 5, 5, 4, 5, 6, 5, 5, 5, 6, 5);
        m.scan(-1, 0);
        m.point(-1, 0);
        m.point(0, 0);
        check.due("two alike outside do not count", m.stamp(0, 1), 1);
        for (int p : new int[] {255, 240, 15}) {
            check.due("seven beyond the side, pose " + p, stampOnNothing(7, 7, p), 0);
        }
        check.due("seven before the side, pose 0", stampOnNothing(-7, -7, 0), 0);
        check.due("seven before the side, pose 1023", stampOnNothing(-7, -7, 1023), 0);
        check.due("one beyond the right side", stampOnNothing(1, 0, 16 * 3 + 15), 0);
        check.due("one before the left side", stampOnNothing(-1, 0, 16 * 3), 0);
        check.due("one above the top", stampOnNothing(0, -1, 3), 0);
        check.due("one below the bottom", stampOnNothing(0, 1, 240 + 3), 0);
    }

    /** Stamps a point that lies outside, and looks that no cell of the map got it. */
    private static int stampOnNothing(int u, int v, int p) {
        ScanMatcher m = new ScanMatcher();
        m.scan(u, v);
        int answer = m.stamp(p, 9);
        check.map("stamp of (" + u + ", " + v + ") in pose " + p, m);
        return answer;
    }

    private static void points() {
        for (Scene scene : Scene.values()) {
            check.changesNothing(scene, "points()", ScanMatcher::points);
        }
        ScanMatcher m = new ScanMatcher();
        check.due("points() of a new object", m.points(), 1);
        for (int n = 2; n <= 10; n++) {
            m.point(0, 0);
            check.due("points() of " + n, m.points(), n);
        }
        m.point(0, 0);
        check.due("points() after FULL", m.points(), 10);
        m.point(8, 0);
        check.due("points() after a refused point", m.points(), 10);
        m.scan(0, -8);
        check.due("points() after a refused scan", m.points(), 10);
        m.look(16, 0, 1);
        check.due("points() after a refused look", m.points(), 10);
        m.look(0, 0, 1);
        check.due("points() after a look at nothing", m.points(), 10);
        m.scan(0, 0);
        check.due("points() after a scan", m.points(), 1);
    }
}

/** Promises 6 to 10: scan, point, look, stamp, points. */
public final class ScanTest {
    private static final int BAD = ScanMatcher.BAD_ARG;
    private static final int FULL = ScanMatcher.FULL;
    private static final int NONE = ScanMatcher.NONE;
    private static final int LOW = Integer.MIN_VALUE;
    private static final int HIGH = Integer.MAX_VALUE;
    private static final int[] NO_COORDINATES = {-8, 8, 15, -15, 256, LOW, HIGH};
    private static final Check check = new Check("ScanTest");

    public static void main(String[] args) {
        promise6Scan();
        promise6ScanRefused();
        promise7Point();
        promise7PointRefused();
        promise8Look();
        promise8LookReach();
        promise8LookFirstTen();
        promise8LookAtTheEdge();
        promise8LookRefused();
        promise9Stamp();
        promise9StampSums();
        promise9StampTurned();
        promise9StampTwoPointsOnOneCell();
        promise9StampAtTheEdge();
        promise9StampRefused();
        promise10Points();
        check.end();
    }

    /** Asks which points the scan has, by a stamp with 1 at (8, 8) on a map that is made empty for it. */
    private static void scanIs(String when, ScanMatcher m, int... uv) {
        for (int y = 0; y < 16; y++) {
            m.wall(0, y, 0, 16 * 16);
        }
        check.due(when + ": points()", m.points(), uv.length / 2);
        check.due(when + ": stamp(136, 1)", m.stamp(136, 1), uv.length / 2);
        int[] cells = new int[uv.length / 2 * 3];
        for (int i = 0; i < uv.length / 2; i++) {
            cells[3 * i] = 8 + uv[2 * i];
            cells[3 * i + 1] = 8 + uv[2 * i + 1];
            cells[3 * i + 2] = 1;
        }
        check.map(when, m, cells);
    }

    private static void promise6Scan() {
        for (int[] uv : new int[][] {{3, -4}, {0, 0}, {-7, -7}, {-7, 7}, {7, -7}, {7, 7}}) {
            ScanMatcher m = new ScanMatcher();
            String call = "scan(" + uv[0] + ", " + uv[1] + ")";
            check.due(call, m.scan(uv[0], uv[1]), 1);
            scanIs(call, m, uv);
        }
        ScanMatcher m = new ScanMatcher();
        m.point(1, 1);
        m.point(2, 2);
        check.due("scan(0, 5) after others", m.scan(0, 5), 1);
        scanIs("scan(0, 5) after others", m, 0, 5);

        m = new ScanMatcher();
        m.point(1, 1);
        m.scan(0, 5);
        m.point(6, 6);
        scanIs("scan and point", m, 0, 5, 6, 6);
    }

    private static void promise6ScanRefused() {
        ScanMatcher m = new ScanMatcher();
        m.scan(2, 3);
        m.point(-1, 4);
        for (int a : NO_COORDINATES) {
            check.due("scan(" + a + ", 0)", m.scan(a, 0), BAD);
            check.due("scan(0, " + a + ")", m.scan(0, a), BAD);
            check.due("scan(" + a + ", " + a + ")", m.scan(a, a), BAD);
        }
        scanIs("scan refused", m, 2, 3, -1, 4);
    }

    private static void promise7Point() {
        ScanMatcher m = new ScanMatcher();
        check.due("point(-7, 7)", m.point(-7, 7), 2);
        check.due("point(7, -7)", m.point(7, -7), 3);
        scanIs("two points more", m, 0, 0, -7, 7, 7, -7);

        m = new ScanMatcher();
        m.point(-7, 7);
        m.point(7, -7);
        for (int n = 4; n <= 10; n++) {
            check.due("point " + n, m.point(n - 4, 1), n);
        }
        scanIs("ten points", m, 0, 0, -7, 7, 7, -7, 0, 1, 1, 1, 2, 1, 3, 1, 4, 1, 5, 1, 6, 1);
    }

    private static void promise7PointRefused() {
        ScanMatcher m = new ScanMatcher();
        for (int a : NO_COORDINATES) {
            check.due("point(" + a + ", 0)", m.point(a, 0), BAD);
            check.due("point(0, " + a + ")", m.point(0, a), BAD);
        }
        scanIs("point refused", m, 0, 0);

        m = new ScanMatcher();
        for (int n = 2; n <= 10; n++) {
            m.point(n - 4, -2);
        }
        check.due("the eleventh point", m.point(0, 5), FULL);
        check.due("the eleventh point again", m.point(7, 7), FULL);
        check.due("BAD_ARG comes before FULL: point(8, 0)", m.point(8, 0), BAD);
        check.due("BAD_ARG comes before FULL: point(0, -8)", m.point(0, -8), BAD);
        scanIs("full", m, 0, 0, -2, -2, -1, -2, 0, -2, 1, -2, 2, -2, 3, -2, 4, -2, 5, -2, 6, -2);
        check.due("scan of a full one", m.scan(1, 1), 1);
        check.due("point again", m.point(2, 2), 2);
    }

    private static void promise8Look() {
        ScanMatcher m = new ScanMatcher();
        m.set(5, 5, 4);
        m.set(6, 5, 5);
        m.set(4, 7, 9);
        m.set(3, 3, 3);
        check.due("look(5, 5, 4)", m.look(5, 5, 4), 3);
        check.due("look changes no weight", m.weight(5, 5), 4);
        scanIs("look(5, 5, 4)", m, 0, 0, 1, 0, -1, 2);

        m = new ScanMatcher();
        m.set(3, 3, 9);
        m.set(4, 3, 8);
        check.due("look(6, 1, 9)", m.look(6, 1, 9), 1);
        scanIs("look(6, 1, 9)", m, -3, 2);

        m = new ScanMatcher();
        m.point(2, 2);
        m.point(4, 2);
        m.set(3, 3, 1);
        check.due("look after a longer scan", m.look(2, 3, 1), 1);
        scanIs("look after a longer scan", m, 1, 0);
    }

    private static void promise8LookReach() {
        int[][] seen = {{-7, -7}, {7, -7}, {-7, 7}, {7, 7}, {0, 7}, {7, 0}, {-7, 0}, {0, -7}};
        for (int[] uv : seen) {
            ScanMatcher m = new ScanMatcher();
            m.set(8 + uv[0], 8 + uv[1], 1);
            check.due("look at a cell " + uv[0] + ", " + uv[1] + " away", m.look(8, 8, 1), 1);
            scanIs("look at a cell " + uv[0] + ", " + uv[1] + " away", m, uv[0], uv[1]);
        }
        int[][] unseen = {{8, 0}, {-8, 0}, {0, 8}, {0, -8}, {8, 8}, {-8, 7}, {7, -8}};
        for (int[] uv : unseen) {
            ScanMatcher m = new ScanMatcher();
            int x = uv[0] == 8 ? 7 : 8;
            int y = uv[1] == 8 ? 7 : 8;
            m.set(x + uv[0], y + uv[1], 9);
            m.scan(2, 1);
            check.due("look at a cell " + uv[0] + ", " + uv[1] + " away", m.look(x, y, 1), NONE);
            scanIs("the scan stays", m, 2, 1);
        }
    }

    private static void promise8LookFirstTen() {
        ScanMatcher m = new ScanMatcher();
        m.set(9, 4, 2);
        m.wall(5, 5, 1, 16 * 6 + 2);
        m.wall(6, 6, 1, 16 * 4 + 3);
        check.due("look at eleven cells", m.look(7, 7, 2), 10);
        scanIs("look at eleven cells", m, 2, -3, -2, -2, -2, -1, -1, -1, -2, 0, -1, 0, -2, 1, -1, 1, -2, 2, -1, 2);

        m = new ScanMatcher();
        m.wall(4, 9, 0, 16 * 10 + 7);
        check.due("look at ten cells", m.look(8, 8, 7), 10);
        scanIs("look at ten cells", m, -4, 1, -3, 1, -2, 1, -1, 1, 0, 1, 1, 1, 2, 1, 3, 1, 4, 1, 5, 1);

        m = new ScanMatcher();
        m.wall(0, 0, 0, 16 * 16 + 1);
        m.wall(0, 1, 0, 16 * 16 + 2);
        check.due("look at two rows of one weight each", m.look(7, 1, 2), 10);
        scanIs("look at two rows", m, -7, 0, -6, 0, -5, 0, -4, 0, -3, 0, -2, 0, -1, 0, 0, 0, 1, 0, 2, 0);
    }

    private static void promise8LookAtTheEdge() {
        ScanMatcher m = new ScanMatcher();
        m.set(0, 0, 1);
        m.set(15, 0, 2);
        m.set(0, 15, 3);
        m.set(15, 15, 4);
        // a row that is not cut off at the map's side would show the cells of the next one
        m.set(15, 1, 5);
        check.due("look(0, 0, 1)", m.look(0, 0, 1), 1);
        check.due("look(0, 2, 1)", m.look(0, 2, 1), 1);
        check.due("look(15, 0, 1)", m.look(15, 0, 1), 2);
        check.due("look(0, 15, 1)", m.look(0, 15, 1), 1);
        check.due("look(15, 15, 1)", m.look(15, 15, 1), 1);
        check.due("look(15, 2, 1)", m.look(15, 2, 1), 2);
        scanIs("look(15, 2, 1)", m, 0, -2, 0, -1);
    }

    private static void promise8LookRefused() {
        ScanMatcher m = new ScanMatcher();
        m.scan(4, -4);
        m.point(3, 3);
        check.due("look(5, 5, 1) at an empty map", m.look(5, 5, 1), NONE);
        for (int y = 0; y < 16; y++) {
            m.wall(0, y, 0, 16 * 16 + 8);
        }
        check.due("look(5, 5, 9) at eights", m.look(5, 5, 9), NONE);
        for (int a : new int[] {-1, 16, LOW, HIGH, 1 << 28}) {
            check.due("look(" + a + ", 5, 5)", m.look(a, 5, 5), BAD);
            check.due("look(5, " + a + ", 5)", m.look(5, a, 5), BAD);
        }
        for (int w : new int[] {0, -1, 10, LOW, HIGH}) {
            check.due("look(5, 5, " + w + ")", m.look(5, 5, w), BAD);
        }
        check.due("weight(0, 0) after looks", m.weight(0, 0), 8);
        scanIs("look refused", m, 4, -4, 3, 3);
    }

    private static void promise9Stamp() {
        ScanMatcher m = new ScanMatcher();
        m.set(4, 6, 5);
        m.set(5, 6, 8);
        m.scan(0, 1);
        m.point(1, 1);
        m.point(2, 1);
        check.due("stamp(16 * 5 + 4, 4)", m.stamp(84, 4), 3);
        check.due("9 is reached: weight(4, 6)", m.weight(4, 6), 9);
        check.due("9 is not passed: weight(5, 6)", m.weight(5, 6), 9);
        check.due("from 0: weight(6, 6)", m.weight(6, 6), 4);
        check.due("stamp with 9", m.stamp(85, 9), 3);
        check.due("stamp with 1", m.stamp(86, 1), 3);
        check.map("stamp with 1", m, 4, 6, 9, 5, 6, 9, 6, 6, 9, 7, 6, 9, 8, 6, 1);
        check.due("the scan stays: points()", m.points(), 3);
        check.due("the scan stays: score(84)", m.score(84), 27);
    }

    private static void promise9StampSums() {
        ScanMatcher m = new ScanMatcher();
        for (int before = 0; before <= 9; before++) {
            for (int w = 1; w <= 9; w++) {
                m.set(6, 2, before);
                check.due("stamp(38, " + w + ") on " + before, m.stamp(38, w), 1);
                check.due("weight after stamp(38, " + w + ") on " + before, m.weight(6, 2), Math.min(9, before + w));
            }
        }
    }

    private static void promise9StampTurned() {
        int[][] cells = {{10, 11}, {5, 10}, {6, 5}, {11, 6}};
        for (int r = 0; r < 4; r++) {
            ScanMatcher m = new ScanMatcher();
            m.scan(2, 3);
            check.due("stamp in turn " + r, m.stamp(256 * r + 136, 6), 1);
            check.map("stamp in turn " + r, m, cells[r][0], cells[r][1], 6);
        }
    }

    private static void promise9StampTwoPointsOnOneCell() {
        ScanMatcher m = new ScanMatcher();
        m.scan(1, 2);
        m.point(1, 2);
        check.due("stamp of two alike", m.stamp(0, 2), 2);
        check.due("stamp of two alike: weight(1, 2)", m.weight(1, 2), 4);
        m.point(1, 2);
        check.due("stamp of three alike", m.stamp(0, 2), 3);
        check.map("stamp of three alike", m, 1, 2, 9);
    }

    private static void promise9StampAtTheEdge() {
        ScanMatcher m = new ScanMatcher();
        m.scan(-1, 0);
        m.point(0, -1);
        m.point(1, 0);
        m.point(0, 1);
        check.due("stamp at (0, 0)", m.stamp(0, 1), 2);
        check.due("stamp at (15, 15)", m.stamp(255, 2), 2);
        check.due("stamp at (0, 8)", m.stamp(128, 3), 3);
        check.due("stamp at (8, 0), turn 3", m.stamp(776, 4), 3);
        check.map("stamp at the edge", m, 1, 0, 1, 0, 1, 1, 14, 15, 2, 15, 14, 2, 0, 7, 3, 1, 8, 3, 0, 9, 3,
            7, 0, 4, 9, 0, 4, 8, 1, 4);
        m.scan(7, 7);
        check.due("stamp outside", m.stamp(255, 9), 0);
        check.due("stamp at the last pose", m.stamp(1023, 1), 0);
        m.scan(0, 0);
        check.due("stamp at the last pose", m.stamp(1023, 1), 1);
        check.due("stamp at the last pose: weight(15, 15)", m.weight(15, 15), 1);
    }

    private static void promise9StampRefused() {
        ScanMatcher m = new ScanMatcher();
        m.set(1, 0, 3);
        for (int p : new int[] {-1, 1024, -256, LOW, HIGH}) {
            check.due("stamp(" + p + ", 1)", m.stamp(p, 1), BAD);
        }
        for (int w : new int[] {0, -1, 10, LOW, HIGH}) {
            check.due("stamp(0, " + w + ")", m.stamp(0, w), BAD);
            check.due("stamp(1, " + w + ")", m.stamp(1, w), BAD);
        }
        check.map("stamp refused", m, 1, 0, 3);
    }

    private static void promise10Points() {
        ScanMatcher m = new ScanMatcher();
        check.due("points() of a new object", m.points(), 1);
        for (int n = 2; n <= 10; n++) {
            m.point(0, 0);
            check.due("points() of " + n, m.points(), n);
        }
        m.point(0, 0);
        check.due("points() after FULL", m.points(), 10);
        m.scan(9, 0);
        check.due("points() after a refused scan", m.points(), 10);
        m.look(3, 3, 3);
        check.due("points() after a look at nothing", m.points(), 10);
        m.wall(3, 3, 0, 16 * 4 + 3);
        m.look(3, 3, 3);
        check.due("points() after a look", m.points(), 4);
        m.fade();
        check.due("points() after a fade", m.points(), 4);
        m.scan(1, 0);
        check.due("points() after a scan", m.points(), 1);
    }
}

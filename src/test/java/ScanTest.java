/** Promises 6 to 10: scan, point, look, stamp, points. */
public final class ScanTest {
    private static final Check check = new Check("ScanTest");

    public static void main(String[] args) {
        promise6Scan();
        promise7Point();
        promise8Look();
        promise8LookFirstTen();
        promise9Stamp();
        promise9StampTurned();
        promise10Points();
        check.end();
    }

    private static void promise6Scan() {
        for (int[] uv : new int[][] {{3, -4}, {0, 0}, {-7, -7}, {-7, 7}, {7, -7}, {7, 7}}) {
            ScanMatcher m = new ScanMatcher();
            String call = "scan(" + uv[0] + ", " + uv[1] + ")";
            check.due(call, m.scan(uv[0], uv[1]), 1);
            check.scan(call, m, uv);
        }
        ScanMatcher m = new ScanMatcher();
        m.point(1, 1);
        m.point(2, 2);
        check.due("scan(0, 5) after others", m.scan(0, 5), 1);
        check.scan("scan(0, 5) after others", m, 0, 5);

        m = new ScanMatcher();
        m.point(1, 1);
        m.scan(0, 5);
        m.point(6, 6);
        check.scan("scan and point", m, 0, 5, 6, 6);
    }

    private static void promise7Point() {
        ScanMatcher m = new ScanMatcher();
        check.due("point(-7, 7)", m.point(-7, 7), 2);
        check.due("point(7, -7)", m.point(7, -7), 3);
        check.scan("two points more", m, 0, 0, -7, 7, 7, -7);

        m = new ScanMatcher();
        m.point(-7, 7);
        m.point(7, -7);
        for (int n = 4; n <= 10; n++) {
            check.due("point " + n, m.point(n - 4, 1), n);
        }
        check.scan("ten points", m, 0, 0, -7, 7, 7, -7, 0, 1, 1, 1, 2, 1, 3, 1, 4, 1, 5, 1, 6, 1);
    }

    private static void promise8Look() {
        ScanMatcher m = new ScanMatcher();
        m.set(5, 5, 4);
        m.set(6, 5, 5);
        m.set(4, 7, 9);
        m.set(3, 3, 3);
        check.due("look(5, 5, 4)", m.look(5, 5, 4), 3);
        check.due("look changes no weight", m.weight(5, 5), 4);
        check.scan("look(5, 5, 4)", m, 0, 0, 1, 0, -1, 2);

        m = new ScanMatcher();
        m.set(3, 3, 9);
        m.set(4, 3, 8);
        check.due("look(6, 1, 9)", m.look(6, 1, 9), 1);
        check.scan("look(6, 1, 9)", m, -3, 2);

        m = new ScanMatcher();
        m.point(2, 2);
        m.point(4, 2);
        m.set(3, 3, 1);
        check.due("look after a longer scan", m.look(2, 3, 1), 1);
        check.scan("look after a longer scan", m, 1, 0);
    }

    private static void promise8LookFirstTen() {
        ScanMatcher m = new ScanMatcher();
        m.set(9, 4, 2);
        m.wall(5, 5, 1, 16 * 6 + 2);
        m.wall(6, 6, 1, 16 * 4 + 3);
        check.due("look at eleven cells", m.look(7, 7, 2), 10);
        check.scan("look at eleven cells", m, 2, -3, -2, -2, -2, -1, -1, -1, -2, 0, -1, 0, -2, 1, -1, 1, -2, 2, -1, 2);

        m = new ScanMatcher();
        m.wall(4, 9, 0, 16 * 10 + 7);
        check.due("look at ten cells", m.look(8, 8, 7), 10);
        check.scan("look at ten cells", m, -4, 1, -3, 1, -2, 1, -1, 1, 0, 1, 1, 1, 2, 1, 3, 1, 4, 1, 5, 1);

        m = new ScanMatcher();
        m.wall(0, 0, 0, 16 * 16 + 1);
        m.wall(0, 1, 0, 16 * 16 + 2);
        check.due("look at two rows of one weight each", m.look(7, 1, 2), 10);
        check.scan("look at two rows", m, -7, 0, -6, 0, -5, 0, -4, 0, -3, 0, -2, 0, -1, 0, 0, 0, 1, 0, 2, 0);
    }

    private static void promise9Stamp() {
        ScanMatcher m = new ScanMatcher();
        m.set(4, 6, 5);
        m.set(5, 6, 8);
        m.scan(0, 1);
        m.point(1, 1);
        m.point(2, 1);
        check.due("stamp(16 * 5 + 4, 4)", m.stamp(84, 4), 3);
        check.due("9 is reached: weight(4, 6)", m.weight(4, 6), 9);
        check.due("9 is not passed: weight(5, 6)", m.weight(5, 6), 9);
        check.due("from 0: weight(6, 6)", m.weight(6, 6), 4);
        check.due("stamp with 9", m.stamp(85, 9), 3);
        check.due("stamp with 1", m.stamp(86, 1), 3);
        check.map("stamp with 1", m, 4, 6, 9, 5, 6, 9, 6, 6, 9, 7, 6, 9, 8, 6, 1);
        check.due("the scan stays: points()", m.points(), 3);
        check.due("the scan stays: score(84)", m.score(84), 27);
    }

    private static void promise9StampTurned() {
        int[][] cells = {{10, 11}, {5, 10}, {6, 5}, {11, 6}};
        for (int r = 0; r < 4; r++) {
            ScanMatcher m = new ScanMatcher();
            m.scan(2, 3);
            check.due("stamp in turn " + r, m.stamp(256 * r + 136, 6), 1);
            check.map("stamp in turn " + r, m, cells[r][0], cells[r][1], 6);
        }
    }

    private static void promise10Points() {
        ScanMatcher m = new ScanMatcher();
        m.point(2, 2);
        check.due("points() after a point", m.points(), 2);
        m.wall(3, 3, 0, 16 * 4 + 3);
        m.look(3, 3, 3);
        check.due("points() after a look", m.points(), 4);
        m.fade();
        m.stamp(0, 1);
        check.due("points() after a fade and a stamp", m.points(), 4);
        m.scan(1, 0);
        check.due("points() after a scan", m.points(), 1);
    }
}

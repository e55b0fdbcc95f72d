/** Promises 11 to 16: score, best, match, matchNear, atLeast, rival. */
public final class PoseTest {
    private static final int LOW = Integer.MIN_VALUE;
    private static final int HIGH = Integer.MAX_VALUE;
    private static final Check check = new Check("PoseTest");

    public static void main(String[] args) {
        promise11ScoreInEachTurn();
        promise11ScoreSums();
        promise12Best();
        promise13MatchIsTheGreatest();
        promise13MatchIsTheFirst();
        promise14MatchNearSquare();
        promise14MatchNearIsTheFirst();
        promise15AtLeast();
        promise16RivalNearAndFar();
        promise16RivalInAnotherTurn();
        promise16RivalOfAnEmptyMap();
        check.end();
    }

    private static int pose(int x, int y, int r) {
        return 256 * r + 16 * y + x;
    }

    private static void promise11ScoreInEachTurn() {
        ScanMatcher m = new ScanMatcher();
        m.scan(2, 3);
        m.set(10, 11, 1);
        m.set(5, 10, 2);
        m.set(6, 5, 3);
        m.set(11, 6, 4);
        for (int r = 0; r < 4; r++) {
            check.due("score at (8, 8), turn " + r, m.score(pose(8, 8, r)), r + 1);
        }
        check.due("score at (9, 8), turn 0", m.score(pose(9, 8, 0)), 0);
        check.due("score at (8, 9), turn 0", m.score(pose(8, 9, 0)), 0);
    }

    private static void promise11ScoreSums() {
        ScanMatcher m = new ScanMatcher();
        m.scan(0, 0);
        m.point(1, 0);
        m.point(0, 1);
        m.point(1, 0);
        m.set(0, 0, 1);
        m.set(1, 0, 2);
        m.set(0, 1, 4);
        m.set(15, 15, 9);
        check.due("two points on one cell both count", m.score(0), 9);
        check.due("points outside count 0", m.score(pose(15, 15, 0)), 9);
        check.due("points outside do not come back in on the other side", m.score(pose(15, 0, 0)), 0);
        check.due("nor over the top", m.score(pose(0, 15, 0)), 0);
        check.due("a turn that lies outside", m.score(pose(0, 0, 2)), 1);
        check.due("the last pose", m.score(1023), 9);
        m.scan(7, 7);
        check.due("far outside", m.score(pose(15, 15, 0)), 0);
        m.set(8, 8, 5);
        check.due("far away", m.score(pose(15, 15, 2)), 5);
    }

    private static void promise12Best() {
        ScanMatcher m = new ScanMatcher();
        check.due("best() of an empty map", m.best(), 0);
        m.set(15, 15, 3);
        check.due("best() in the last place", m.best(), 3);
        m.set(0, 0, 4);
        check.due("best() in the first place", m.best(), 4);
        m.scan(0, 0);
        m.point(3, 0);
        check.due("best() of one of two points", m.best(), 4);
        m.set(15, 12, 2);
        check.due("best() of both points, turned", m.best(), 5);
        m.fade();
        check.due("best() after a fade", m.best(), 3);
        Scene.fill(m, 9);
        for (int n = 3; n <= 10; n++) {
            m.point(n - 5, 5 - n);
        }
        check.due("best() of ten points on nines", m.best(), 90);
    }

    private static void promise13MatchIsTheGreatest() {
        // The points (0, 0), (3, 0) and (0, 2) make an L that fits in one turn alone.
        int[][] longEnd = {{9, 6}, {6, 9}, {3, 6}, {6, 3}};
        int[][] shortEnd = {{6, 8}, {4, 6}, {6, 4}, {8, 6}};
        for (int r = 0; r < 4; r++) {
            ScanMatcher m = new ScanMatcher();
            m.point(3, 0);
            m.point(0, 2);
            m.set(6, 6, 2);
            m.set(longEnd[r][0], longEnd[r][1], 3);
            m.set(shortEnd[r][0], shortEnd[r][1], 4);
            check.due("match() in turn " + r, m.match(), pose(6, 6, r));
            check.due("best() in turn " + r, m.best(), 9);
        }
        ScanMatcher m = new ScanMatcher();
        m.scan(7, 0);
        m.set(15, 0, 9);
        check.due("match() of a point away from its place", m.match(), pose(8, 0, 0));
        m.scan(-7, 7);
        check.due("match() that fits in turn 2 alone", m.match(), pose(8, 7, 2));
    }

    private static void promise13MatchIsTheFirst() {
        ScanMatcher m = new ScanMatcher();
        check.due("match() of an empty map", m.match(), 0);
        m.set(3, 9, 5);
        m.set(9, 3, 5);
        check.due("the lesser y comes before the lesser x", m.match(), pose(9, 3, 0));
        m.set(8, 3, 5);
        check.due("the lesser x comes first in a row", m.match(), pose(8, 3, 0));
        m.set(15, 15, 6);
        check.due("the greater score comes before all", m.match(), pose(15, 15, 0));
        m.scan(0, 1);
        m.set(15, 15, 0);
        m.set(8, 3, 0);
        m.set(9, 3, 0);
        check.due("the lesser turn comes before the lesser y", m.match(), pose(3, 8, 0));
        m.set(3, 9, 0);
        m.set(3, 0, 5);
        check.due("turn 1 where turn 0 has no place", m.match(), pose(4, 0, 1));
    }

    private static void promise14MatchNearSquare() {
        for (int d = 0; d <= 5; d++) {
            int[][] at = {{d, d}, {-d, d}, {d, -d}, {-d, -d}, {d, 0}, {0, -d}};
            for (int[] a : at) {
                ScanMatcher m = new ScanMatcher();
                m.set(8 + a[0], 8 + a[1], 3);
                String what = "matchNear(0, 136, d) at " + a[0] + ", " + a[1] + ", d = ";
                check.due(what + d, m.matchNear(0, 136, d), pose(8 + a[0], 8 + a[1], 0));
                if (d > 0) {
                    check.due(what + (d - 1), m.matchNear(0, 136, d - 1), pose(9 - d, 9 - d, 0));
                }
            }
        }
        ScanMatcher m = new ScanMatcher();
        m.set(5, 5, 4);
        m.set(12, 12, 9);
        check.due("the greatest far away does not count", m.matchNear(0, pose(6, 6, 0), 3), pose(5, 5, 0));
        check.due("d = 0 is the place alone", m.matchNear(2, pose(6, 6, 0), 0), pose(6, 6, 2));
    }

    private static void promise14MatchNearIsTheFirst() {
        ScanMatcher m = new ScanMatcher();
        m.scan(1, 0);
        m.set(4, 4, 7);
        int[] first = {pose(3, 4, 0), pose(4, 3, 1), pose(5, 4, 2), pose(4, 5, 3)};
        for (int r = 0; r < 4; r++) {
            check.due("matchNear in turn " + r, m.matchNear(r, pose(4, 4, 0), 1), first[r]);
            check.due("matchNear in turn " + r + ", d = 15", m.matchNear(r, pose(9, 9, 0), 15), first[r]);
        }
    }

    private static void promise15AtLeast() {
        ScanMatcher m = new ScanMatcher();
        check.due("empty: atLeast(0)", m.atLeast(0), 1024);
        check.due("empty: atLeast(1)", m.atLeast(1), 0);
        m.set(0, 0, 3);
        m.set(15, 15, 5);
        check.due("atLeast(1)", m.atLeast(1), 8);
        check.due("atLeast(3)", m.atLeast(3), 8);
        check.due("atLeast(4)", m.atLeast(4), 4);
        check.due("atLeast(5)", m.atLeast(5), 4);
        check.due("atLeast(6)", m.atLeast(6), 0);
        check.due("atLeast(-1)", m.atLeast(-1), 1024);
        check.due("atLeast(LOW)", m.atLeast(LOW), 1024);
        check.due("atLeast(HIGH)", m.atLeast(HIGH), 0);
        m.scan(1, 0);
        check.due("each corner is reached in two turns", m.atLeast(1), 4);
        m.point(1, 0);
        check.due("twice the weight", m.atLeast(10), 2);
        check.due("one more than twice the weight", m.atLeast(11), 0);
        Scene.fill(m, 9);
        m.scan(0, 0);
        for (int n = 2; n <= 10; n++) {
            m.point(0, 0);
        }
        check.due("atLeast(90)", m.atLeast(90), 1024);
        check.due("atLeast(91)", m.atLeast(91), 0);
    }

    private static void promise16RivalNearAndFar() {
        int[][] near = {{1, 0}, {2, 0}, {0, 2}, {2, 2}, {-2, -2}, {-2, 1}, {1, -2}};
        for (int[] o : near) {
            rivalInTheSameTurn(o[0], o[1], false);
        }
        int[][] far = {{3, 0}, {0, 3}, {-3, 0}, {0, -3}, {3, 2}, {2, -3}, {-3, -3}, {-1, 4}, {4, 1}, {-6, -6}};
        for (int[] o : far) {
            rivalInTheSameTurn(o[0], o[1], true);
        }
    }

    /** An L that fits in turn 0 alone, at (6, 6) with 27 and at an offset from there with 24. */
    private static void rivalInTheSameTurn(int dx, int dy, boolean counts) {
        ScanMatcher m = new ScanMatcher();
        m.point(5, 0);
        m.point(0, 4);
        int[][] cells = {{6, 6}, {11, 6}, {6, 10}};
        for (int[] c : cells) {
            m.set(c[0] + dx, c[1] + dy, 8);
        }
        for (int[] c : cells) {
            m.set(c[0], c[1], 9);
        }
        String at = " with another at " + dx + ", " + dy;
        check.due("match()" + at, m.match(), pose(6, 6, 0));
        check.due("score of the other" + at, m.score(pose(6 + dx, 6 + dy, 0)), 24);
        if (counts) {
            check.due("rival()" + at, m.rival(), 24);
        } else {
            check.holds("rival()" + at + " is less than 24", m.rival() < 24);
        }
    }

    private static void promise16RivalInAnotherTurn() {
        ScanMatcher m = new ScanMatcher();
        m.set(5, 5, 7);
        check.due("one point in its place: all turns are alike", m.rival(), 7);
        m.scan(1, 0);
        check.due("one point beside its place", m.rival(), 7);
        m.scan(0, 0);
        m.point(7, 0);
        m.set(12, 5, 4);
        check.due("the same two cells turned by two", m.rival(), 11);
        m.point(0, 7);
        m.set(5, 12, 3);
        check.due("best() of three", m.best(), 14);
        check.due("two of the three", m.rival(), 11);
    }

    private static void promise16RivalOfAnEmptyMap() {
        ScanMatcher m = new ScanMatcher();
        check.due("rival() of an empty map", m.rival(), 0);
        m.set(0, 0, 9);
        m.scan(-7, -7);
        check.due("rival() where one pose alone has a score", m.rival(), 0);
        m.point(-7, 7);
        m.point(7, -7);
        m.set(0, 14, 9);
        m.set(14, 0, 9);
        check.due("match() of three corners", m.match(), pose(7, 7, 0));
        check.due("rival() of three corners", m.rival(), 18);
    }
}

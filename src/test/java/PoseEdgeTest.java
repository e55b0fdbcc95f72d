/** The boundary cases that promises 11 to 16 name, a test for each sentence. */
public final class PoseEdgeTest {
    private static final int LOW = Integer.MIN_VALUE;
    private static final int HIGH = Integer.MAX_VALUE;
    private static final int[] POSES = {0, 1023};
    private static final int[] CORNERS = {0, 15, 240, 255};
    private static final Check check = new Check("PoseEdgeTest");

    public static void main(String[] args) {
        check.sentence("11: The score of the pose with number p", PoseEdgeTest::scoreAtTheEnds);
        check.sentence("11: BAD_ARG if p is not 0 to 1023", PoseEdgeTest::scoreRefused);
        check.sentence("12: The greatest score of a pose.", PoseEdgeTest::bestLeastAndMost);
        check.sentence("13: with the greatest score", PoseEdgeTest::matchOfEachCellAlone);
        check.sentence("13: the first pose", PoseEdgeTest::matchOfEqualScores);
        check.sentence("14: the first of the poses with the greatest score", PoseEdgeTest::matchNearOfEqualScores);
        check.sentence("14: |x - x0| <= d and |y - y0| <= d", PoseEdgeTest::matchNearOfEachCellAlone);
        check.sentence("14: among those with turn r", PoseEdgeTest::matchNearInEachTurn);
        check.sentence("14: BAD_ARG if r is not 0 to 3, the number not 0 to 255 or d not 0 to 15.",
            PoseEdgeTest::matchNearRefused);
        check.sentence("15: at least s, where s is one of the scores", PoseEdgeTest::atLeastOneOfTheScores);
        check.sentence("15: at least s, where s is below or above all scores", PoseEdgeTest::atLeastOutOfReach);
        check.sentence("16: The greatest score of a pose", PoseEdgeTest::rivalInTheFirstAndTheLastPose);
        check.sentence("16: differs from that of match() by 3 or more in x or in y", PoseEdgeTest::rivalDistance);
        check.sentence("16: differs by 3 or more, at the two sides of the map", PoseEdgeTest::rivalAtTheOtherSide);
        check.sentence("16: or whose turn differs", PoseEdgeTest::rivalInAnotherTurn);
        check.sentence("16: that of match(), the first of equal poses", PoseEdgeTest::rivalOfEqualScores);
        check.sentence("16: NONE if there is no such pose", PoseEdgeTest::rivalIsAlwaysThere);
        check.end();
    }

    private static int pose(int x, int y, int r) {
        return 256 * r + 16 * y + x;
    }

    /**
     * With the scan of the one point (-7, -7) a cell within 6 of a corner is reached in one turn alone, from one place
     * alone: this is that cell of the turn's corner, i and j from 0 to 6.
     */
    private static int cellOfTurn(int r, int i, int j) {
        int x = r == 0 || r == 3 ? i : 9 + i;
        int y = r == 0 || r == 1 ? j : 9 + j;
        return 16 * y + x;
    }

    /** The pose from which cellOfTurn(r, i, j) is reached. */
    private static int poseOfTurn(int r, int i, int j) {
        int x = r == 0 || r == 3 ? i + 7 : i + 2;
        int y = r == 0 || r == 1 ? j + 7 : j + 2;
        return pose(x, y, r);
    }

    private static void set(ScanMatcher m, int cell, int w) {
        m.set(cell % 16, cell / 16, w);
    }

    private static ScanMatcher farScan() {
        ScanMatcher m = new ScanMatcher();
        m.scan(-7, -7);
        return m;
    }

    /** Three points that make an angle, so that they fit on three such cells in one pose alone. */
    private static ScanMatcher angleScan() {
        ScanMatcher m = new ScanMatcher();
        m.point(5, 0);
        m.point(0, -4);
        return m;
    }

    private static void angleInTheLastPose(ScanMatcher m, int w) {
        m.set(15, 15, w);
        m.set(15, 10, w);
        m.set(11, 15, w);
    }

    private static void scoreAtTheEnds() {
        ScanMatcher m = new ScanMatcher();
        for (int i = 0; i < 4; i++) {
            set(m, CORNERS[i], i + 1);
        }
        for (int r = 0; r < 4; r++) {
            for (int i = 0; i < 4; i++) {
                check.due("score in corner " + i + ", turn " + r, m.score(256 * r + CORNERS[i]), i + 1);
            }
        }
        m.scan(1, 0);
        m.set(0, 1, 5);
        m.set(14, 15, 6);
        check.due("score(255), the last of turn 0, points out of the map", m.score(255), 0);
        check.due("score(256), the first of turn 1, points down", m.score(256), 5);
        check.due("score(767), the last of turn 2, points to the left", m.score(767), 6);
        check.due("score(768), the first of turn 3, points out of the map", m.score(768), 0);
        for (Scene scene : Scene.values()) {
            check.changesNothing(scene, "score(0)", it -> it.score(0));
            check.changesNothing(scene, "score(1023)", it -> it.score(1023));
        }
    }

    private static void scoreRefused() {
        check.ranges("score", (m, a) -> m.score(a[0]), POSES);
    }

    private static void bestLeastAndMost() {
        check.changesNothing(Scene.NEW, "best() of an empty map", 0, ScanMatcher::best);
        check.changesNothing(Scene.EMPTY_MAP_AND_TEN_POINTS, "best() of an empty map", 0, ScanMatcher::best);
        check.changesNothing(Scene.ALL_NINES_AND_TEN_POINTS, "best() of ten points on nines", 90, ScanMatcher::best);
        for (int r = 0; r < 4; r++) {
            for (int w : new int[] {1, 9}) {
                ScanMatcher m = farScan();
                set(m, cellOfTurn(r, 0, 0), w);
                check.due("best() in one pose of turn " + r, m.best(), w);
            }
        }
    }

    private static void matchOfEachCellAlone() {
        for (int r = 0; r < 4; r++) {
            for (int i = 0; i < 7; i++) {
                for (int j = 0; j < 7; j++) {
                    ScanMatcher m = farScan();
                    set(m, cellOfTurn(r, i, j), 1);
                    check.due("match() in one pose of turn " + r, m.match(), poseOfTurn(r, i, j));
                    check.due("atLeast(1) in one pose of turn " + r, m.atLeast(1), 1);
                }
            }
        }
        ScanMatcher m = new ScanMatcher();
        for (int place : new int[] {255, 254, 239, 16, 15, 1, 0}) {
            set(m, place, 9);
            check.due("match() where " + place + " is the first", m.match(), place);
        }
        m = angleScan();
        angleInTheLastPose(m, 3);
        check.due("match() in the last pose of all", m.match(), 1023);
        check.due("atLeast(9) in the last pose of all", m.atLeast(9), 1);
    }

    private static void matchOfEqualScores() {
        check.changesNothing(Scene.NEW, "match() where all scores are 0", 0, ScanMatcher::match);
        ScanMatcher m = new ScanMatcher();
        Scene.fill(m, 9);
        check.due("match() where all scores are 9", m.match(), 0);

        m = farScan();
        for (int r = 0; r < 4; r++) {
            set(m, cellOfTurn(r, 3, 3), 4);
        }
        for (int r = 0; r < 4; r++) {
            check.due("match(): the lesser turn first", m.match(), poseOfTurn(r, 3, 3));
            set(m, cellOfTurn(r, 3, 3), 0);
        }
        for (int r = 0; r < 4; r++) {
            m = farScan();
            set(m, cellOfTurn(r, 0, 4), 4);
            set(m, cellOfTurn(r, 6, 3), 4);
            check.due("match() in turn " + r + ": the lesser y before the lesser x", m.match(), poseOfTurn(r, 6, 3));
            set(m, cellOfTurn(r, 5, 3), 4);
            check.due("match() in turn " + r + ": then the lesser x", m.match(), poseOfTurn(r, 5, 3));
            set(m, cellOfTurn(r, 6, 6), 5);
            check.due("match() in turn " + r + ": a greater score first", m.match(), poseOfTurn(r, 6, 6));
        }
    }

    private static int firstOfSquare(int r, int place, int d) {
        return pose(Math.max(0, place % 16 - d), Math.max(0, place / 16 - d), r);
    }

    /** Every r, place and d, on a map where all scores are equal. */
    private static void matchNearOfEqualScores() {
        for (int d = 0; d <= 15; d++) {
            for (int r = 0; r < 4; r++) {
                ScanMatcher m = new ScanMatcher();
                for (int place = 0; place < 256; place++) {
                    String call = "matchNear(" + r + ", " + place + ", " + d + ")";
                    check.due(call, m.matchNear(r, place, d), firstOfSquare(r, place, d));
                }
            }
        }
        ScanMatcher m = new ScanMatcher();
        m.set(3, 5, 7);
        m.set(5, 3, 7);
        check.due("the lesser y before the lesser x", m.matchNear(3, pose(4, 4, 0), 1), pose(5, 3, 3));
        m.set(3, 3, 7);
        check.due("then the lesser x", m.matchNear(3, pose(4, 4, 0), 1), pose(3, 3, 3));
    }

    /** Each cell of the map alone, near to places in the corners and elsewhere, with every d. */
    private static void matchNearOfEachCellAlone() {
        int[] places = {0, 15, 240, 255, 119, 136, pose(12, 3, 0)};
        for (int cell = 0; cell < 256; cell++) {
            ScanMatcher m = new ScanMatcher();
            set(m, cell, 9);
            int r = cell % 4;
            for (int place : places) {
                int dx = Math.abs(cell % 16 - place % 16);
                int dy = Math.abs(cell / 16 - place / 16);
                for (int d = 0; d <= 15; d++) {
                    boolean near = dx <= d && dy <= d;
                    check.due("cell " + cell + ": matchNear(" + r + ", " + place + ", " + d + ")",
                        m.matchNear(r, place, d), near ? 256 * r + cell : firstOfSquare(r, place, d));
                }
            }
        }
    }

    private static void matchNearInEachTurn() {
        for (int r = 0; r < 4; r++) {
            ScanMatcher m = farScan();
            set(m, cellOfTurn(r, 2, 5), 9);
            for (int asked = 0; asked < 4; asked++) {
                check.due("cell of turn " + r + ": matchNear(" + asked + ", 255, 15)", m.matchNear(asked, 255, 15),
                    asked == r ? poseOfTurn(r, 2, 5) : 256 * asked);
            }
        }
        // the three points at (0, 0) in turn 1, in the first pose after those of turn 0
        ScanMatcher m = angleScan();
        m.set(0, 0, 9);
        m.set(0, 5, 9);
        m.set(4, 0, 9);
        check.due("match() in the first pose of turn 1", m.match(), 256);
        check.due("matchNear(0, 0, 15) leaves it out", m.matchNear(0, 0, 15), 0);
        check.due("matchNear(1, 0, 15) has it", m.matchNear(1, 0, 15), 256);
        m = angleScan();
        angleInTheLastPose(m, 9);
        check.due("matchNear(3, 255, 0) in the last pose of all", m.matchNear(3, 255, 0), 1023);
        check.due("matchNear(3, 0, 15) in the last pose of all", m.matchNear(3, 0, 15), 1023);
        for (Scene scene : Scene.values()) {
            check.changesNothing(scene, "matchNear(3, 255, 15)", it -> it.matchNear(3, 255, 15));
        }
    }

    private static void matchNearRefused() {
        check.ranges("matchNear", (m, a) -> m.matchNear(a[0], a[1], a[2]),
            new int[] {0, 3}, new int[] {0, 255}, new int[] {0, 15});
    }

    private static void atLeastOneOfTheScores() {
        ScanMatcher m = farScan();
        for (int w = 1; w <= 7; w++) {
            set(m, cellOfTurn(w % 4, w - 1, 0), w);
        }
        for (int s = 1; s <= 8; s++) {
            check.due("one pose for each score of 1 to 7: atLeast(" + s + ")", m.atLeast(s), 8 - s);
        }
        m = Scene.ALL_NINES_AND_TEN_POINTS.make();
        check.holds("atLeast(90) of ten points on nines", m.atLeast(90) > 0);
        check.due("atLeast(91) of ten points on nines", m.atLeast(91), 0);
        m = new ScanMatcher();
        Scene.fill(m, 9);
        for (int n = 2; n <= 10; n++) {
            m.point(0, 0);
        }
        check.due("atLeast(90) where every pose has it", m.atLeast(90), 1024);
        check.due("atLeast(91) where every pose has 90", m.atLeast(91), 0);
    }

    private static void atLeastOutOfReach() {
        for (Scene scene : Scene.values()) {
            for (int s : new int[] {0, -1, -2, -4, LOW}) {
                check.changesNothing(scene, "atLeast(" + s + ")", 1024, m -> m.atLeast(s));
            }
            for (int s : new int[] {91, 1024, HIGH}) {
                check.changesNothing(scene, "atLeast(" + s + ")", 0, m -> m.atLeast(s));
            }
        }
        check.due("atLeast(1) of an empty map", new ScanMatcher().atLeast(1), 0);
    }

    private static void rivalInTheFirstAndTheLastPose() {
        ScanMatcher m = angleScan();
        m.set(5, 5, 9);
        m.set(10, 5, 9);
        m.set(5, 1, 9);
        angleInTheLastPose(m, 8);
        check.due("match() in turn 0", m.match(), pose(5, 5, 0));
        check.due("score(1023)", m.score(1023), 24);
        check.due("rival() in the last pose", m.rival(), 24);

        m = new ScanMatcher();
        m.point(5, 0);
        m.point(0, 4);
        for (int i = 0; i <= 1; i++) {
            m.set(9 * i, 9 * i, 8 + i);
            m.set(9 * i + 5, 9 * i, 8 + i);
            m.set(9 * i, 9 * i + 4, 8 + i);
        }
        check.due("match() in turn 0", m.match(), pose(9, 9, 0));
        check.due("score(0)", m.score(0), 24);
        check.due("rival() in the first pose", m.rival(), 24);
    }

    /** Every two cells of a turn's corner, one with 9 and one with 8, so that no third pose has a score. */
    private static void rivalDistance() {
        for (int r = 0; r < 4; r++) {
            for (int one = 0; one < 49; one++) {
                for (int other = 0; other < 49; other++) {
                    rivalOfTwoCells(r, one % 7, one / 7, other % 7, other / 7);
                }
            }
        }
    }

    private static void rivalOfTwoCells(int r, int i, int j, int k, int l) {
        ScanMatcher m = farScan();
        set(m, cellOfTurn(r, k, l), 8);
        set(m, cellOfTurn(r, i, j), 9);
        boolean far = Math.abs(i - k) >= 3 || Math.abs(j - l) >= 3;
        String at = " in turn " + r + ", 9 at " + i + ", " + j + ", 8 at " + k + ", " + l;
        check.due("match()" + at, m.match(), poseOfTurn(r, i, j));
        check.due("rival()" + at, m.rival(), far ? 8 : 0);
    }

    private static void rivalAtTheOtherSide() {
        // a line of cells down, at one side with 9 each, at the other one row lower with 8 each: the poses' numbers are
        // next to each other, and so are the places if the map is thought to go on at its other side
        ScanMatcher m = new ScanMatcher();
        m.point(0, 5);
        m.point(0, -3);
        for (int y : new int[] {3, 6, 11}) {
            m.set(15, y, 9);
            m.set(0, y + 1, 8);
        }
        check.due("match() at the right side", m.match(), pose(15, 6, 0));
        check.due("rival() at the left side", m.rival(), 24);
        // the same with a line to the right, at the bottom and at the top
        m = new ScanMatcher();
        m.point(5, 0);
        m.point(-3, 0);
        for (int x : new int[] {3, 6, 11}) {
            m.set(x, 15, 9);
            m.set(x + 1, 0, 8);
        }
        check.due("match() at the bottom", m.match(), pose(6, 15, 0));
        check.due("rival() at the top", m.rival(), 24);
    }

    private static void rivalInAnotherTurn() {
        // these cells are reached from the place (8, 8) in every turn
        int[] cell = {cellOfTurn(0, 1, 1), cellOfTurn(1, 6, 1), cellOfTurn(2, 6, 6), cellOfTurn(3, 1, 6)};
        for (int r = 0; r < 4; r++) {
            for (int other = 0; other < 4; other++) {
                if (other != r) {
                    ScanMatcher m = farScan();
                    set(m, cell[r], 9);
                    set(m, cell[other], 8);
                    check.due("match() in turn " + r, m.match(), pose(8, 8, r));
                    check.due("rival() in the same place, turn " + other, m.rival(), 8);
                }
            }
        }
    }

    private static void rivalOfEqualScores() {
        ScanMatcher m = farScan();
        set(m, cellOfTurn(0, 2, 0), 5);
        set(m, cellOfTurn(0, 4, 0), 5);
        check.due("an equal pose that is near does not count", m.rival(), 0);
        set(m, cellOfTurn(0, 6, 0), 3);
        check.due("it is the first from which the distance is taken", m.rival(), 3);
        set(m, cellOfTurn(0, 5, 0), 5);
        check.due("an equal pose that is far counts", m.rival(), 5);
        set(m, cellOfTurn(0, 4, 0), 6);
        check.due("a greater one takes the first's place, and all are near", m.rival(), 0);
    }

    /** The other three turns always have poses, so that this answer can't come. */
    private static void rivalIsAlwaysThere() {
        check.changesNothing(Scene.NEW, "rival() of an empty map", 0, ScanMatcher::rival);
        check.changesNothing(Scene.EMPTY_MAP_AND_TEN_POINTS, "rival() of an empty map", 0, ScanMatcher::rival);
        for (int place : CORNERS) {
            ScanMatcher m = new ScanMatcher();
            set(m, place, 9);
            check.due("rival() of one cell in a corner, in another turn", m.rival(), 9);
        }
        for (int r = 0; r < 4; r++) {
            ScanMatcher m = farScan();
            set(m, cellOfTurn(r, 3, 3), 9);
            check.due("rival() where one pose alone has a score", m.rival(), 0);
        }
    }
}

import java.util.Arrays;
import java.util.function.ToIntFunction;

/** The boundary cases that promises 1 to 5 name, a test for each sentence. */
public final class MapEdgeTest {
    private static final int BAD = ScanMatcher.BAD_ARG;
    private static final int LOW = Integer.MIN_VALUE;
    private static final int HIGH = Integer.MAX_VALUE;
    private static final int[] SIDE = {0, 15};
    private static final Check check = new Check("MapEdgeTest");

    public static void main(String[] args) {
        check.sentence("1: All weights are 0.", MapEdgeTest::newObject);
        check.sentence("2: Cell (x, y) gets the weight w.", MapEdgeTest::setAtTheEnds);
        check.sentence("2: BAD_ARG if x or y is not 0 to 15 or w not 0 to 9.", MapEdgeTest::setRefused);
        check.sentence("2: Otherwise the weight before.", MapEdgeTest::setAnswersTheWeightBefore);
        check.sentence("3: to the right (down = 0) or downwards, y growing (down not 0)", MapEdgeTest::wallDirections);
        check.sentence("3: n of them as far as they are in the map", MapEdgeTest::wallEndsWithTheMap);
        check.sentence("3: BAD_ARG if x or y is not 0 to 15", MapEdgeTest::wallPlaceRefused);
        check.sentence("3: n not 0 to 16", MapEdgeTest::wallLengthRefused);
        check.sentence("3: or w not 0 to 9", MapEdgeTest::wallWeightRefused);
        check.sentence("3: n and w are handed over as 16 n + w", MapEdgeTest::wallNumbers);
        check.sentence("3: Otherwise how many cells got it.", MapEdgeTest::wallOfNoCells);
        check.sentence("4: 0 outside the map.", MapEdgeTest::weightOutside);
        check.sentence("5: All weights become less by one", MapEdgeTest::fadeOfEachWeight);
        check.sentence("5: those of 0 stay", MapEdgeTest::fadeOfZeros);
        check.sentence("5: the number of cells that have a weight above 0 afterwards", MapEdgeTest::fadeCounts);
        check.end();
    }

    private static void newObject() {
        ScanMatcher used = new ScanMatcher();
        Scene.fill(used, 9);
        check.map("a new object beside one that is full", new ScanMatcher());
    }

    private static void setAtTheEnds() {
        for (int w : new int[] {0, 9}) {
            for (int x : SIDE) {
                for (int y : SIDE) {
                    ScanMatcher m = new ScanMatcher();
                    m.set(x, y, 5);
                    check.due("set(" + x + ", " + y + ", " + w + ")", m.set(x, y, w), 5);
                    check.map("set(" + x + ", " + y + ", " + w + ")", m, x, y, w);
                }
            }
        }
    }

    private static void setRefused() {
        check.ranges("set", (m, a) -> m.set(a[0], a[1], a[2]), SIDE, SIDE, new int[] {0, 9});
    }

    private static void setAnswersTheWeightBefore() {
        ScanMatcher m = new ScanMatcher();
        check.due("the first set of a cell", m.set(15, 15, 9), 0);
        check.due("9 before, and 9 again", m.set(15, 15, 9), 9);
        check.due("9 before, and 0 then", m.set(15, 15, 0), 9);
        check.due("0 before, and 0 again", m.set(15, 15, 0), 0);
        m.set(15, 15, 4);
        check.due("a refused set", m.set(15, 15, 10), BAD);
        check.due("the weight before a refused set", m.set(15, 15, 1), 4);
    }

    private static void wallDirections() {
        for (int down : new int[] {0, 1, -1, 2, 15, 16, 256, LOW, HIGH}) {
            ScanMatcher m = new ScanMatcher();
            check.due("wall(4, 5, " + down + ", 35)", m.wall(4, 5, down, 35), 2);
            int right = down == 0 ? 1 : 0;
            check.map("wall(4, 5, " + down + ", 35)", m, 4, 5, 3, 4 + right, 6 - right, 3);
        }
    }

    /** From every column of some rows and every row of some columns, in every length. */
    private static void wallEndsWithTheMap() {
        for (int start = 0; start < 16; start++) {
            for (int n = 0; n <= 16; n++) {
                for (int other : new int[] {0, 7, 15}) {
                    wallOf(start, other, 0, n);
                    wallOf(other, start, 1, n);
                }
            }
        }
    }

    private static void wallOf(int x, int y, int down, int n) {
        int[] want = new int[256];
        int cells = 0;
        for (int a = x, b = y; cells < n && a < 16 && b < 16; cells++) {
            want[16 * b + a] = 6;
            a += 1 - down;
            b += down;
        }
        ScanMatcher m = new ScanMatcher();
        String call = "wall(" + x + ", " + y + ", " + down + ", " + (16 * n + 6) + ")";
        check.due(call, m.wall(x, y, down, 16 * n + 6), cells);
        check.weights(call, m, want);
    }

    private static void wallPlaceRefused() {
        // of no cells and of weight 0 among them: these are refused for their place too
        for (int nAndW : new int[] {0, 9, 16, 16 * 16 + 9}) {
            for (int down : new int[] {0, 1}) {
                check.ranges("wall, down = " + down + ", nAndW = " + nAndW + ", at ",
                    (m, a) -> m.wall(a[0], a[1], down, nAndW), SIDE, SIDE);
            }
        }
    }

    private static void wallLengthRefused() {
        int greatest = HIGH / 16;
        for (int n : new int[] {-1, -2, -16, 17, 18, 32, 256, greatest, -greatest, LOW / 16, 1 << 26, -(1 << 26)}) {
            for (int w : new int[] {0, 1, 9}) {
                wallRefused(16 * n + w);
            }
        }
    }

    private static void wallWeightRefused() {
        for (int n : new int[] {0, 1, 15, 16}) {
            for (int w = 10; w < 16; w++) {
                wallRefused(16 * n + w);
            }
        }
        wallRefused(-1);
        wallRefused(LOW);
        wallRefused(HIGH);
    }

    private static void wallRefused(int nAndW) {
        for (int down : new int[] {0, 1}) {
            ToIntFunction<ScanMatcher> wall = m -> m.wall(0, 0, down, nAndW);
            check.refused("wall(0, 0, " + down + ", " + nAndW + ")", BAD, wall);
        }
    }

    private static void wallNumbers() {
        for (int nAndW = -300; nAndW <= 600; nAndW++) {
            boolean taken = nAndW >= 0 && nAndW / 16 <= 16 && nAndW % 16 <= 9;
            ScanMatcher m = new ScanMatcher();
            m.set(2, 3, 5);
            check.due("wall(2, 3, 1, " + nAndW + ")", m.wall(2, 3, 1, nAndW),
                taken ? Math.min(nAndW / 16, 13) : BAD);
            check.due("weight(2, 3) after wall(2, 3, 1, " + nAndW + ")", m.weight(2, 3),
                taken && nAndW >= 16 ? nAndW % 16 : 5);
        }
    }

    private static void wallOfNoCells() {
        for (int down : new int[] {0, 1}) {
            for (int w : new int[] {0, 9}) {
                for (Scene scene : Scene.values()) {
                    ToIntFunction<ScanMatcher> wall = m -> m.wall(15, 15, down, w);
                    check.changesNothing(scene, "wall(15, 15, " + down + ", " + w + ")", 0, wall);
                }
            }
        }
        ScanMatcher m = new ScanMatcher();
        Scene.fill(m, 4);
        check.due("cells that had the weight already count too", m.wall(0, 9, 0, 16 * 16 + 4), 16);
        check.due("and so do those that get the weight 0", m.wall(9, 0, 1, 16 * 16), 16);
    }

    private static void weightOutside() {
        int[] outside = {-1, 16, -2, 17, -16, 31, 255, 256, 1 << 28, -(1 << 28), LOW, HIGH};
        for (int a : outside) {
            ScanMatcher m = Scene.ALL_NINES_AND_TEN_POINTS.make();
            for (int b = 0; b < 16; b++) {
                check.due("weight(" + a + ", " + b + ")", m.weight(a, b), 0);
                check.due("weight(" + b + ", " + a + ")", m.weight(b, a), 0);
            }
            for (int b : outside) {
                check.due("weight(" + a + ", " + b + ")", m.weight(a, b), 0);
            }
            for (int x : SIDE) {
                for (int y : SIDE) {
                    check.due("weight(" + x + ", " + y + ")", m.weight(x, y), 9);
                }
            }
            check.changesNothing(Scene.BUSY, "weight(" + a + ", 0)", it -> it.weight(a, 0));
            check.changesNothing(Scene.BUSY, "weight(0, " + a + ")", it -> it.weight(0, a));
        }
    }

    private static void fadeOfEachWeight() {
        for (int w = 1; w <= 9; w++) {
            ScanMatcher m = new ScanMatcher();
            Scene.fill(m, w);
            check.due("fade() of a map of " + w, m.fade(), w == 1 ? 0 : 256);
            int[] want = new int[256];
            Arrays.fill(want, w - 1);
            check.weights("fade() of a map of " + w, m, want);
        }
    }

    private static void fadeOfZeros() {
        check.changesNothing(Scene.NEW, "fade() of an empty map", 0, ScanMatcher::fade);
        check.changesNothing(Scene.EMPTY_MAP_AND_TEN_POINTS, "fade() of an empty map", 0, ScanMatcher::fade);
        ScanMatcher m = new ScanMatcher();
        m.set(0, 0, 9);
        m.set(15, 15, 1);
        for (int left = 8; left >= 0; left--) {
            check.due("fade() to " + left, m.fade(), left > 0 ? 1 : 0);
            check.due("what was 9, faded to " + left, m.weight(0, 0), left);
            check.due("what was 1, faded to " + left, m.weight(15, 15), 0);
        }
        check.due("fade() once more than the greatest weight", m.fade(), 0);
        check.map("fade() once more than the greatest weight", m);
    }

    private static void fadeCounts() {
        ScanMatcher m = new ScanMatcher();
        m.wall(0, 0, 0, 16 * 16 + 1);
        m.wall(0, 15, 0, 16 * 16 + 2);
        check.due("fade(): ones do not count, twos do", m.fade(), 16);
        check.due("fade(): all are gone", m.fade(), 0);
        for (int cell = 0; cell < 256; cell += 51) {
            m.set(cell % 16, cell / 16, 2);
        }
        check.due("fade(): the first and the last cell count", m.fade(), 6);
    }
}

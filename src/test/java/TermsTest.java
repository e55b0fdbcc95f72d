import java.util.ArrayList;
import java.util.List;
import java.util.function.ToIntFunction;

/** The boundary cases that stand under the document's "What it is" and "Terms", a test for each sentence. */
public final class TermsTest {
    private static final int[] WILD = {
        Integer.MIN_VALUE, -(1 << 28), -1024, -17, -8, -1, 0, 1, 7, 9, 15, 16, 255, 1023, 1024, 1 << 28,
        Integer.MAX_VALUE,
    };
    private static final Check check = new Check("TermsTest");

    public static void main(String[] args) {
        check.sentence("An object is used for at most 512 calls", TermsTest::theLastCall);
        check.sentence("16 by 16 cells, cell (x, y) with x, y from 0 to 15", TermsTest::eachCellHasItsOwnWeight);
        check.sentence("a WEIGHT, a whole number from 0 to 9", TermsTest::eachWeight);
        check.sentence("outside there is nothing (weight 0)", TermsTest::nothingIsOutside);
        check.sentence("A list of 1 to 10 POINTS", TermsTest::oneToTenPoints);
        check.sentence("at first it is the one point (0, 0)", TermsTest::firstScan);
        check.sentence("In a pose the point (u, v) lies on the cell (x + a, y + b)", TermsTest::eachPointInEachPose);
        check.sentence("two points on one cell both count", TermsTest::pointsOnOneCell);
        check.sentence("Poses are ordered by r, then by y, then by x, the lesser first", TermsTest::orderOfPoses);
        check.sentence("No call ever throws.", TermsTest::wildCalls);
        check.sentence("A refused call answers the code named and changes nothing.", TermsTest::refusedCalls);
        check.end();
    }

    /** An object with 511 calls behind it: points (1, 0) twice, and the weight 6 in cell (3, 4) alone. */
    private static ScanMatcher before512() {
        ScanMatcher m = new ScanMatcher();
        for (int i = 0; i < 123; i++) {
            m.set(i % 16, i % 15, i % 10);
            m.stamp(i, 1 + i % 9);
            m.look(i % 16, i % 13, 1);
            m.point(i % 8, -i % 8);
        }
        Scene.fill(m, 0);
        m.scan(1, 0);
        m.set(3, 4, 6);
        m.point(1, 0);
        return m;
    }

    private static void theLastCall() {
        last("set(3, 4, 1)", 6, m -> m.set(3, 4, 1));
        last("wall(3, 4, 0, 33)", 2, m -> m.wall(3, 4, 0, 33));
        last("weight(3, 4)", 6, m -> m.weight(3, 4));
        last("fade()", 1, ScanMatcher::fade);
        last("scan(2, 2)", 1, m -> m.scan(2, 2));
        last("point(0, 0)", 3, m -> m.point(0, 0));
        last("look(3, 4, 6)", 1, m -> m.look(3, 4, 6));
        last("stamp(66, 1)", 2, m -> m.stamp(66, 1));
        last("points()", 2, ScanMatcher::points);
        last("score(66)", 12, m -> m.score(66));
        last("best()", 12, ScanMatcher::best);
        last("match()", 66, ScanMatcher::match);
        last("matchNear(1, 51, 0)", 307, m -> m.matchNear(1, 51, 0));
        last("atLeast(12)", 4, m -> m.atLeast(12));
        last("rival()", 12, ScanMatcher::rival);
    }

    private static void last(String call, int want, ToIntFunction<ScanMatcher> it) {
        check.due("the 512th call, " + call, it.applyAsInt(before512()), want);
    }

    private static void eachCellHasItsOwnWeight() {
        ScanMatcher m = new ScanMatcher();
        int[] want = new int[256];
        for (int cell = 0; cell < 256; cell++) {
            want[cell] = (7 * (cell % 16) + 3 * (cell / 16) + 1) % 10;
            m.set(cell % 16, cell / 16, want[cell]);
        }
        check.weights("all cells", m, want);
        for (int cell = 0; cell < 256; cell++) {
            m = new ScanMatcher();
            m.set(cell % 16, cell / 16, 9);
            check.map("cell " + cell + " alone", m, cell % 16, cell / 16, 9);
        }
    }

    private static void eachWeight() {
        ScanMatcher m = new ScanMatcher();
        for (int w = 0; w <= 9; w++) {
            m.set(0, 15, w);
            check.due("set to " + w, m.weight(0, 15), w);
            m.wall(0, 15, 0, 16 + w);
            check.due("wall of " + w, m.weight(0, 15), w);
        }
        m.stamp(240, 9);
        check.due("not above 9 by a stamp", m.weight(0, 15), 9);
        for (int i = 0; i < 12; i++) {
            m.fade();
        }
        check.due("not below 0 by a fade", m.weight(0, 15), 0);
    }

    private static void nothingIsOutside() {
        ScanMatcher m = new ScanMatcher();
        Scene.fill(m, 9);
        for (int i = 0; i < 16; i++) {
            check.due("weight(-1, " + i + ")", m.weight(-1, i), 0);
            check.due("weight(16, " + i + ")", m.weight(16, i), 0);
            check.due("weight(" + i + ", -1)", m.weight(i, -1), 0);
            check.due("weight(" + i + ", 16)", m.weight(i, 16), 0);
        }
        int[][] beside = {{-1, 0}, {1, 0}, {0, -1}, {0, 1}};
        int[] side = {0, 15, 0, 240};
        int[] along = {16, 16, 1, 1};
        for (int s = 0; s < 4; s++) {
            m.scan(beside[s][0], beside[s][1]);
            for (int i = 0; i < 16; i++) {
                check.due("score over side " + s, m.score(side[s] + along[s] * i), 0);
                check.due("stamp over side " + s, m.stamp(side[s] + along[s] * i, 1), 0);
            }
        }
        m = new ScanMatcher();
        m.wall(0, 0, 1, 16 * 16 + 9);
        check.due("look() from the right side does not see the left one", m.look(15, 8, 1), ScanMatcher.NONE);
        m = new ScanMatcher();
        m.wall(0, 15, 0, 16 * 16 + 9);
        check.due("look() from the top does not see the bottom", m.look(8, 0, 1), ScanMatcher.NONE);
    }

    private static void oneToTenPoints() {
        ScanMatcher m = new ScanMatcher();
        for (int i = 0; i < 20; i++) {
            m.point(i % 8, 0);
            check.due("points() after " + (i + 1) + " calls of point()", m.points(), Math.min(10, i + 2));
        }
        m.look(0, 0, 1);
        check.due("points() after a look at nothing", m.points(), 10);
        Scene.fill(m, 1);
        m.look(8, 8, 1);
        check.due("points() after a look at a full map", m.points(), 10);
        m.scan(0, 0);
        check.due("points() after a scan", m.points(), 1);
    }

    private static void firstScan() {
        check.scan("a new object", new ScanMatcher(), 0, 0);
        ScanMatcher m = new ScanMatcher();
        m.point(3, 4);
        check.scan("a new object with a second point", m, 0, 0, 3, 4);
    }

    /** All 225 points in all 1024 poses, on a map from which the column can be told, and on one for the row. */
    private static void eachPointInEachPose() {
        for (int u = -7; u <= 7; u++) {
            for (int v = -7; v <= 7; v++) {
                onePointInTurn(u, v, 0, u, v);
                onePointInTurn(u, v, 1, -v, u);
                onePointInTurn(u, v, 2, -u, -v);
                onePointInTurn(u, v, 3, v, -u);
            }
        }
    }

    private static void onePointInTurn(int u, int v, int r, int a, int b) {
        for (int down = 0; down <= 1; down++) {
            ScanMatcher m = new ScanMatcher();
            for (int i = 0; i < 16; i++) {
                m.wall(down == 0 ? 0 : i, down == 0 ? i : 0, down, 16 * 16 + 1 + i % 9);
            }
            m.scan(u, v);
            for (int place = 0; place < 256; place++) {
                int x = place % 16 + a;
                int y = place / 16 + b;
                boolean inside = 0 <= x && x <= 15 && 0 <= y && y <= 15;
                int p = 256 * r + place;
                check.due("the point (" + u + ", " + v + "): score(" + p + ")", m.score(p),
                    inside ? 1 + (down == 0 ? y : x) % 9 : 0);
            }
        }
    }

    private static void pointsOnOneCell() {
        ScanMatcher m = new ScanMatcher();
        m.set(15, 0, 9);
        for (int n = 1; n <= 10; n++) {
            check.due(n + " points on one cell: score(15)", m.score(15), 9 * n);
            check.due(n + " points on one cell: best()", m.best(), 9 * n);
            check.due(n + " points on one cell: stamp(0, 1)", m.stamp(0, 1), n);
            m.set(0, 0, 0);
            m.point(0, 0);
        }
    }

    private static void orderOfPoses() {
        for (int cell = 0; cell < 255; cell++) {
            ScanMatcher m = new ScanMatcher();
            m.set(15, 15, 3);
            m.set(cell % 16, cell / 16, 3);
            check.due("match() where " + cell + " and 255 are equal in all turns", m.match(), cell);
        }
        // the point lies above its place in turn 0, to the right in turn 1, below in turn 2
        int[] side = {5, 16 * 5 + 15, 16 * 15 + 5, 16 * 5};
        ScanMatcher m = new ScanMatcher();
        m.scan(0, -1);
        for (int cell : side) {
            m.set(cell % 16, cell / 16, 3);
        }
        check.due("match() in turn 0, the lesser y first", m.match(), 16 * 1 + 5);
        m.set(5, 0, 0);
        check.due("match() in turn 0, the lesser x first", m.match(), 16 * 6);
        m.set(0, 5, 0);
        check.due("match() in turn 0, the one cell it can reach", m.match(), 16 * 6 + 15);
        m.set(15, 5, 0);
        check.due("match() in turn 1, where turn 0 reaches no cell", m.match(), 256 + 16 * 15 + 4);
    }

    private static void wildCalls() {
        for (Scene scene : Scene.values()) {
            wildCallsOf(scene, 4, (m, a) -> m.wall(a[0], a[1], a[2], a[3]));
            wildCallsOf(scene, 3, (m, a) -> m.set(a[0], a[1], a[2]));
            wildCallsOf(scene, 3, (m, a) -> m.look(a[0], a[1], a[2]));
            wildCallsOf(scene, 3, (m, a) -> m.matchNear(a[0], a[1], a[2]));
            wildCallsOf(scene, 2, (m, a) -> m.weight(a[0], a[1]));
            wildCallsOf(scene, 2, (m, a) -> m.scan(a[0], a[1]));
            wildCallsOf(scene, 2, (m, a) -> m.point(a[0], a[1]));
            wildCallsOf(scene, 2, (m, a) -> m.stamp(a[0], a[1]));
            wildCallsOf(scene, 1, (m, a) -> m.score(a[0]));
            wildCallsOf(scene, 1, (m, a) -> m.atLeast(a[0]));
            List<ToIntFunction<ScanMatcher>> plain = List.of(ScanMatcher::fade, ScanMatcher::points, ScanMatcher::best,
                ScanMatcher::match, ScanMatcher::rival);
            for (ToIntFunction<ScanMatcher> call : plain) {
                wildCallsOf(scene, 0, (m, a) -> call.applyAsInt(m));
            }
        }
    }

    /** Every choice of wild numbers for the arguments, a few hundred calls on one object after the other. */
    private static void wildCallsOf(Scene scene, int places, Check.Call call) {
        ScanMatcher m = scene.make();
        int calls = 0;
        for (int[] a : choices(places)) {
            if (calls == 400) {
                stillSound(scene, m);
                m = scene.make();
                calls = 0;
            }
            check.holds("an answer is a code or at least 0", call.on(m, a) >= ScanMatcher.NONE);
            calls++;
        }
        stillSound(scene, m);
    }

    private static void stillSound(Scene scene, ScanMatcher m) {
        for (int i = 0; i < 16; i++) {
            check.holds(scene + ": weights are 0 to 9", m.weight(i, i) >= 0 && m.weight(i, i) <= 9);
        }
        check.holds(scene + ": points are 1 to 10", m.points() >= 1 && m.points() <= 10);
    }

    private static List<int[]> choices(int places) {
        List<int[]> all = new ArrayList<>(List.of(new int[places]));
        for (int i = 0; i < places; i++) {
            List<int[]> more = new ArrayList<>();
            for (int[] a : all) {
                for (int w : WILD) {
                    int[] b = a.clone();
                    b[i] = w;
                    more.add(b);
                }
            }
            all = more;
        }
        return all;
    }

    private static void refusedCalls() {
        check.refused("set(16, 0, 0)", -1, m -> m.set(16, 0, 0));
        check.refused("wall(0, 16, 0, 256)", -1, m -> m.wall(0, 16, 0, 256));
        check.refused("scan(8, 0)", -1, m -> m.scan(8, 0));
        check.refused("point(0, 8)", -1, m -> m.point(0, 8));
        check.refused("look(0, 0, 0)", -1, m -> m.look(0, 0, 0));
        check.refused("stamp(0, 0)", -1, m -> m.stamp(0, 0));
        check.refused("score(1024)", -1, m -> m.score(1024));
        check.refused("matchNear(4, 0, 0)", -1, m -> m.matchNear(4, 0, 0));
        check.changesNothing(Scene.EMPTY_MAP_AND_TEN_POINTS, "point(0, 0)", -2, m -> m.point(0, 0));
        check.changesNothing(Scene.EMPTY_MAP_AND_TEN_POINTS, "look(0, 0, 1)", -4, m -> m.look(0, 0, 1));
    }
}

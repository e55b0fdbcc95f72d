import java.util.function.Consumer;

/** Objects with a past of a few calls, and all that can be seen of them. */
enum Scene {
    NEW(m -> { }),
    BUSY(Scene::busy),
    ALL_NINES_AND_TEN_POINTS(m -> {
        fill(m, 9);
        tenPoints(m);
    }),
    EMPTY_MAP_AND_TEN_POINTS(Scene::tenPoints);

    private final Consumer<ScanMatcher> past;

    Scene(Consumer<ScanMatcher> past) {
        this.past = past;
    }

    ScanMatcher make() {
        ScanMatcher m = new ScanMatcher();
        past.accept(m);
        return m;
    }

    /**
     * The weights, the number of points, and how often each point stands in the scan.
     * Two objects with the same past are read: one has too few of its 512 calls left for all of it.
     */
    int[] stateAfter(Consumer<ScanMatcher> calls) {
        int[] state = new int[256 + 1 + 225];
        ScanMatcher m = make();
        calls.accept(m);
        for (int cell = 0; cell < 256; cell++) {
            state[cell] = m.weight(cell % 16, cell / 16);
        }
        m = make();
        calls.accept(m);
        state[256] = m.points();
        fill(m, 0);
        m.stamp(136, 1);
        for (int i = 0; i < 225; i++) {
            state[257 + i] = m.weight(1 + i % 15, 1 + i / 15);
        }
        return state;
    }

    /** All cells get the weight w. */
    static void fill(ScanMatcher m, int w) {
        for (int y = 0; y < 16; y++) {
            m.wall(0, y, 0, 16 * 16 + w);
        }
    }

    /** The scan gets ten points that are all unlike. */
    private static void tenPoints(ScanMatcher m) {
        m.scan(-7, 7);
        m.point(7, -7);
        for (int n = 3; n <= 10; n++) {
            m.point(n - 4, 5 - n);
        }
    }

    private static void busy(ScanMatcher m) {
        m.wall(0, 0, 0, 16 * 16 + 1);
        m.wall(0, 15, 0, 16 * 16 + 9);
        m.wall(15, 0, 1, 16 * 16 + 5);
        m.set(8, 8, 3);
        m.set(0, 0, 7);
        m.scan(-7, 7);
        m.point(2, 0);
        m.point(2, 0);
    }
}

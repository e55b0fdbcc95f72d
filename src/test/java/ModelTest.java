import java.util.ArrayList;
import java.util.List;

/** All promises together: long runs of calls, each answer held against a second, slow way to find it. */
public final class ModelTest {
    private static final int OBJECTS = 60;
    private static final int CALLS = 512;
    private static final Check check = new Check("ModelTest");

    // The document's terms written down once more, as unlike the class as may be.
    private int[][] weights = new int[16][16];
    private List<int[]> scan = new ArrayList<>(List.of(new int[] {0, 0}));
    private final ScanMatcher matcher = new ScanMatcher();
    private final int run;
    private long seed;
    private final int lastKind;

    private ModelTest(int run) {
        this.run = run;
        seed = 1000003L * run + 17;
        // Some runs have more calls of point() than others, so that scans grow full.
        lastKind = run % 4 == 0 ? 24 : 14;
    }

    public static void main(String[] args) {
        for (int run = 1; run <= OBJECTS; run++) {
            ModelTest test = new ModelTest(run);
            // 256 of an object's 512 calls are kept for the reading of the whole map.
            for (int call = 0; call < CALLS - 256; call++) {
                test.step(call);
            }
            test.readMap();
        }
        check.end();
    }

    /** The same numbers in every run of the test. */
    private int next(int from, int to) {
        seed = seed * 6364136223846793005L + 1442695040888963407L;
        return from + (int) ((seed >>> 33) % (to - from + 1));
    }

    /** Mostly a number in the range, now and then one just outside of it. */
    private int about(int from, int to) {
        int kind = next(0, 39);
        return kind == 0 ? from - 1 : kind == 1 ? to + 1 : next(from, to);
    }

    private void step(int call) {
        int kind = next(0, lastKind);
        String at = "run " + run + ", call " + call + ": ";
        switch (kind) {
            case 0: set(at, about(0, 15), about(0, 15), about(0, 9)); break;
            case 1: wall(at, about(0, 15), about(0, 15), next(-1, 1), 16 * about(0, 16) + next(0, 10)); break;
            case 2: weight(at, about(0, 15), about(0, 15)); break;
            case 3: fade(at); break;
            case 4: scan(at, about(-7, 7), about(-7, 7)); break;
            case 5: look(at, about(0, 15), about(0, 15), about(1, 9)); break;
            case 6: stamp(at, about(0, 1023), about(1, 9)); break;
            case 7: check.due(at + "points()", matcher.points(), scan.size()); break;
            case 8: score(at, about(0, 1023)); break;
            case 9: check.due(at + "best()", matcher.best(), score(bestOf(all()))); break;
            case 10: check.due(at + "match()", matcher.match(), bestOf(all())); break;
            case 11: matchNear(at, about(0, 3), about(0, 255), about(0, 15)); break;
            case 12: atLeast(at, next(-1, 91)); break;
            case 13: rival(at); break;
            default: point(at, about(-7, 7), about(-7, 7)); break;
        }
    }

    private static boolean in(int a, int from, int to) {
        return from <= a && a <= to;
    }

    private void set(String at, int x, int y, int w) {
        int want = -1;
        if (in(x, 0, 15) && in(y, 0, 15) && in(w, 0, 9)) {
            want = weights[x][y];
            weights[x][y] = w;
        }
        check.due(at + "set(" + x + ", " + y + ", " + w + ")", matcher.set(x, y, w), want);
    }

    private void wall(String at, int x, int y, int down, int nAndW) {
        int n = Math.floorDiv(nAndW, 16);
        int w = Math.floorMod(nAndW, 16);
        int want = -1;
        if (in(x, 0, 15) && in(y, 0, 15) && in(n, 0, 16) && in(w, 0, 9)) {
            want = 0;
            int a = x;
            int b = y;
            while (want < n && a < 16 && b < 16) {
                weights[a][b] = w;
                want++;
                a += down == 0 ? 1 : 0;
                b += down == 0 ? 0 : 1;
            }
        }
        check.due(at + "wall(" + x + ", " + y + ", " + down + ", " + nAndW + ")", matcher.wall(x, y, down, nAndW), want);
    }

    private int modelWeight(int x, int y) {
        return in(x, 0, 15) && in(y, 0, 15) ? weights[x][y] : 0;
    }

    private void weight(String at, int x, int y) {
        check.due(at + "weight(" + x + ", " + y + ")", matcher.weight(x, y), modelWeight(x, y));
    }

    private void fade(String at) {
        int want = 0;
        for (int[] column : weights) {
            for (int y = 0; y < 16; y++) {
                column[y] = Math.max(0, column[y] - 1);
                want += column[y] > 0 ? 1 : 0;
            }
        }
        check.due(at + "fade()", matcher.fade(), want);
    }

    private void scan(String at, int u, int v) {
        int want = -1;
        if (in(u, -7, 7) && in(v, -7, 7)) {
            scan = new ArrayList<>(List.of(new int[] {u, v}));
            want = 1;
        }
        check.due(at + "scan(" + u + ", " + v + ")", matcher.scan(u, v), want);
    }

    private void point(String at, int u, int v) {
        int want = -1;
        if (in(u, -7, 7) && in(v, -7, 7)) {
            want = -2;
            if (scan.size() < 10) {
                scan.add(new int[] {u, v});
                want = scan.size();
            }
        }
        check.due(at + "point(" + u + ", " + v + ")", matcher.point(u, v), want);
    }

    private void look(String at, int x, int y, int w) {
        int want = -1;
        if (in(x, 0, 15) && in(y, 0, 15) && in(w, 1, 9)) {
            List<int[]> seen = new ArrayList<>();
            for (int b = 0; b < 16; b++) {
                for (int a = 0; a < 16; a++) {
                    if (weights[a][b] >= w && Math.abs(a - x) <= 7 && Math.abs(b - y) <= 7) {
                        seen.add(new int[] {a - x, b - y});
                    }
                }
            }
            want = -4;
            if (!seen.isEmpty()) {
                scan = new ArrayList<>(seen.subList(0, Math.min(10, seen.size())));
                want = scan.size();
            }
        }
        check.due(at + "look(" + x + ", " + y + ", " + w + ")", matcher.look(x, y, w), want);
    }

    /** A turn is a quarter turn, (u, v) to (-v, u), done r times. */
    private static int[] cell(int[] point, int p) {
        int a = point[0];
        int b = point[1];
        for (int turn = 0; turn < p / 256; turn++) {
            int old = a;
            a = -b;
            b = old;
        }
        return new int[] {p % 16 + a, p / 16 % 16 + b};
    }

    private void stamp(String at, int p, int w) {
        int want = -1;
        if (in(p, 0, 1023) && in(w, 1, 9)) {
            want = 0;
            for (int[] point : scan) {
                int[] c = cell(point, p);
                if (in(c[0], 0, 15) && in(c[1], 0, 15)) {
                    weights[c[0]][c[1]] = Math.min(9, weights[c[0]][c[1]] + w);
                    want++;
                }
            }
        }
        check.due(at + "stamp(" + p + ", " + w + ")", matcher.stamp(p, w), want);
    }

    private int score(int p) {
        int sum = 0;
        for (int[] point : scan) {
            int[] c = cell(point, p);
            sum += modelWeight(c[0], c[1]);
        }
        return sum;
    }

    private void score(String at, int p) {
        check.due(at + "score(" + p + ")", matcher.score(p), in(p, 0, 1023) ? score(p) : -1);
    }

    private static List<Integer> all() {
        List<Integer> poses = new ArrayList<>();
        for (int p = 0; p < 1024; p++) {
            poses.add(p);
        }
        return poses;
    }

    private int bestOf(List<Integer> poses) {
        int best = poses.get(0);
        for (int p : poses) {
            best = score(p) > score(best) ? p : best;
        }
        return best;
    }

    private static int distance(int p, int q) {
        return Math.max(Math.abs(p % 16 - q % 16), Math.abs(p / 16 % 16 - q / 16 % 16));
    }

    private void matchNear(String at, int r, int place, int d) {
        int want = -1;
        if (in(r, 0, 3) && in(place, 0, 255) && in(d, 0, 15)) {
            List<Integer> poses = all();
            poses.removeIf(p -> p / 256 != r || distance(p, place) > d);
            want = bestOf(poses);
        }
        check.due(at + "matchNear(" + r + ", " + place + ", " + d + ")", matcher.matchNear(r, place, d), want);
    }

    private void atLeast(String at, int s) {
        long want = all().stream().filter(p -> score(p) >= s).count();
        check.due(at + "atLeast(" + s + ")", matcher.atLeast(s), want);
    }

    private void rival(String at) {
        int best = bestOf(all());
        List<Integer> poses = all();
        poses.removeIf(p -> p / 256 == best / 256 && distance(p, best) < 3);
        check.due(at + "rival()", matcher.rival(), score(bestOf(poses)));
    }

    private void readMap() {
        for (int y = 0; y < 16; y++) {
            for (int x = 0; x < 16; x++) {
                weight("run " + run + ", at its end: ", x, y);
            }
        }
    }
}

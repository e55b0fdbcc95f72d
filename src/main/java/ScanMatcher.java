/** A map of cells with weights, scans of points, and the pose at which a scan fits the map best. */
public final class ScanMatcher {
    public static final int BAD_ARG = -1;
    public static final int FULL = -2;
    public static final int NONE = -4;

    private static final int SIDE = 16;
    private static final int CELLS = 256;
    private static final int TURNS = 4;
    private static final int POSES = 1024;
    private static final int MAX_WEIGHT = 9;
    private static final int MAX_POINTS = 10;
    private static final int REACH = 7;
    private static final int RIVAL_DISTANCE = 3;
    private static final int OUTSIDE = -1;

    // Cell (x, y) stands at 16 y + x, so a cell's index is also the number of a place.
    private final int[] weights = new int[CELLS];
    private final int[] pointU = new int[MAX_POINTS];
    private final int[] pointV = new int[MAX_POINTS];
    private int pointCount;

    public ScanMatcher() {
        // The arrays are made with zeros: an empty map, and (0, 0) as the first point.
        pointCount = 1;
    }

    public int set(int x, int y, int w) {
        if (!isCell(x, y) || w < 0 || w > MAX_WEIGHT) {
            return BAD_ARG;
        }
        int cell = SIDE * y + x;
        int before = weights[cell];
        weights[cell] = w;
        return before;
    }

    public int wall(int x, int y, int down, int nAndW) {
        // Shift and mask round downwards, so a negative number gives a negative n.
        int n = nAndW >> 4;
        int w = nAndW & 15;
        if (!isCell(x, y) || n < 0 || n > SIDE || w > MAX_WEIGHT) {
            return BAD_ARG;
        }
        int start = down == 0 ? x : y;
        int room = SIDE - start;
        int length = n < room ? n : room;
        int step = down == 0 ? 1 : SIDE;
        int first = SIDE * y + x;
        for (int i = 0; i < length; i++) {
            weights[first + i * step] = w;
        }
        return length;
    }

    public int weight(int x, int y) {
        return isCell(x, y) ? weights[SIDE * y + x] : 0;
    }

    public int fade() {
        int left = 0;
        for (int cell = 0; cell < CELLS; cell++) {
            if (weights[cell] > 0) {
                weights[cell]--;
            }
            if (weights[cell] > 0) {
                left++;
            }
        }
        return left;
    }

    public int scan(int u, int v) {
        if (!isPoint(u, v)) {
            return BAD_ARG;
        }
        pointU[0] = u;
        pointV[0] = v;
        pointCount = 1;
        return pointCount;
    }

    public int point(int u, int v) {
        if (!isPoint(u, v)) {
            return BAD_ARG;
        }
        if (pointCount >= MAX_POINTS) {
            return FULL;
        }
        pointU[pointCount] = u;
        pointV[pointCount] = v;
        pointCount++;
        return pointCount;
    }

    public int look(int x, int y, int w) {
        if (!isCell(x, y) || w < 1 || w > MAX_WEIGHT) {
            return BAD_ARG;
        }
        // Nothing of the scan is written before a cell is found, so it stays if there is none.
        int found = 0;
        for (int v = -REACH; v <= REACH; v++) {
            for (int u = -REACH; u <= REACH; u++) {
                // Outside the map the weight is 0, which is less than any w here.
                if (found < MAX_POINTS && weight(x + u, y + v) >= w) {
                    pointU[found] = u;
                    pointV[found] = v;
                    found++;
                }
            }
        }
        if (found == 0) {
            return NONE;
        }
        pointCount = found;
        return pointCount;
    }

    public int stamp(int p, int w) {
        if (!isPose(p) || w < 1 || w > MAX_WEIGHT) {
            return BAD_ARG;
        }
        int inMap = 0;
        for (int i = 0; i < pointCount; i++) {
            int cell = cellUnder(i, p);
            if (cell != OUTSIDE) {
                int sum = weights[cell] + w;
                weights[cell] = sum < MAX_WEIGHT ? sum : MAX_WEIGHT;
                inMap++;
            }
        }
        return inMap;
    }

    public int points() {
        return pointCount;
    }

    public int score(int p) {
        if (!isPose(p)) {
            return BAD_ARG;
        }
        int sum = 0;
        for (int i = 0; i < pointCount; i++) {
            int cell = cellUnder(i, p);
            if (cell != OUTSIDE) {
                sum += weights[cell];
            }
        }
        return sum;
    }

    public int best() {
        int p = match();
        return score(p);
    }

    public int match() {
        // Every place is within 15 of place 0, so this leaves no pose out.
        return firstGreatest(0, POSES, 0, SIDE - 1);
    }

    public int matchNear(int r, int place, int d) {
        if (r < 0 || r >= TURNS || place < 0 || place >= CELLS || d < 0 || d >= SIDE) {
            return BAD_ARG;
        }
        int from = CELLS * r;
        return firstGreatest(from, from + CELLS, place, d);
    }

    public int atLeast(int s) {
        int count = 0;
        for (int p = 0; p < POSES; p++) {
            if (score(p) >= s) {
                count++;
            }
        }
        return count;
    }

    public int rival() {
        int winner = match();
        // NONE is less than every score, so the first rival takes its place.
        int greatest = NONE;
        for (int p = 0; p < POSES; p++) {
            if (turnOf(p) != turnOf(winner) || !isNear(p, winner, RIVAL_DISTANCE - 1)) {
                int s = score(p);
                greatest = s > greatest ? s : greatest;
            }
        }
        return greatest;
    }

    /** The first pose with the greatest score, of those from..end-1 at most d away from the place. */
    private int firstGreatest(int from, int end, int place, int d) {
        int first = NONE;
        int greatest = NONE;
        for (int p = from; p < end; p++) {
            if (isNear(p, place, d)) {
                int s = score(p);
                if (s > greatest) {
                    greatest = s;
                    first = p;
                }
            }
        }
        return first;
    }

    /** The index of the cell on which point i lies in pose p, or OUTSIDE. */
    private int cellUnder(int i, int p) {
        int u = pointU[i];
        int v = pointV[i];
        int x = columnOf(p);
        int y = rowOf(p);
        switch (turnOf(p)) {
            case 0:
                x += u;
                y += v;
                break;
            case 1:
                x -= v;
                y += u;
                break;
            case 2:
                x -= u;
                y -= v;
                break;
            default:
                x += v;
                y -= u;
                break;
        }
        return isCell(x, y) ? SIDE * y + x : OUTSIDE;
    }

    /** Both numbers may be of poses or of places: only their columns and rows count. */
    private static boolean isNear(int p, int q, int d) {
        int dx = columnOf(p) - columnOf(q);
        int dy = rowOf(p) - rowOf(q);
        return dx >= -d && dx <= d && dy >= -d && dy <= d;
    }

    private static boolean isCell(int x, int y) {
        return x >= 0 && x < SIDE && y >= 0 && y < SIDE;
    }

    private static boolean isPoint(int u, int v) {
        return u >= -REACH && u <= REACH && v >= -REACH && v <= REACH;
    }

    private static boolean isPose(int p) {
        return p >= 0 && p < POSES;
    }

    private static int columnOf(int p) {
        return p & 15;
    }

    private static int rowOf(int p) {
        return (p >> 4) & 15;
    }

    private static int turnOf(int p) {
        return p >> 8;
    }
}

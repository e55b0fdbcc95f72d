import java.util.Collections;
import java.util.IdentityHashMap;
import java.util.Set;

/** Counts the answers that are not the ones due, and ends the test with exit code 1 if there were any. */
final class Check {
    private final String test;
    private final Set<ScanMatcher> read = Collections.newSetFromMap(new IdentityHashMap<>());
    private int asked;
    private int wrong;

    Check(String test) {
        this.test = test;
    }

    void due(String call, long got, long want) {
        asked++;
        if (got != want) {
            wrong++;
            System.out.println(call + " answered " + got + ", due is " + want);
        }
    }

    void holds(String what, boolean itHolds) {
        asked++;
        if (!itHolds) {
            wrong++;
            System.out.println("does not hold: " + what);
        }
    }

    /**
     * The cells given as x, y, weight, x, y, weight ...; all others must have the weight 0.
     * Once for an object: it takes 256 of the 512 calls after which an object's answers are free.
     */
    void map(String when, ScanMatcher m, int... cells) {
        holds(when + ": the map is read for the first time", read.add(m));
        int[] want = new int[256];
        for (int i = 0; i < cells.length; i += 3) {
            want[16 * cells[i + 1] + cells[i]] = cells[i + 2];
        }
        for (int y = 0; y < 16; y++) {
            for (int x = 0; x < 16; x++) {
                due(when + ": weight(" + x + ", " + y + ")", m.weight(x, y), want[16 * y + x]);
            }
        }
    }

    void end() {
        System.out.println(test + ": " + asked + " asked, " + wrong + " wrong");
        if (wrong != 0 || asked == 0) {
            System.exit(1);
        }
    }
}

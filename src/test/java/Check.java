import java.util.Arrays;
import java.util.Collections;
import java.util.IdentityHashMap;
import java.util.Set;
import java.util.function.ToIntFunction;

/** Counts the answers that are not the ones due, and ends the test with exit code 1 if there were any. */
final class Check {
    /** A call of one method with its arguments. */
    interface Call {
        int on(ScanMatcher m, int... arguments);
    }

    // Outside every range of the document; some of them come to 0 by way of 16 y or 256 r.
    private static final int[] FAR = {
        Integer.MIN_VALUE, Integer.MIN_VALUE + 1, -(1 << 28), -(1 << 24), -1024, -256, -16,
        1024, 1 << 16, 1 << 24, 1 << 28, Integer.MAX_VALUE,
    };

    private final String test;
    private final Set<ScanMatcher> read = Collections.newSetFromMap(new IdentityHashMap<>());
    private String sentence = "";
    private int asked;
    private int wrong;

    Check(String test) {
        this.test = test;
    }

    /** A sentence of the document and the test of its own that it has. */
    void sentence(String words, Runnable itsTest) {
        int askedBefore = asked;
        sentence = "[" + words + "] ";
        try {
            itsTest.run();
        } catch (RuntimeException e) {
            holds("no call ever throws, but this came: " + e, false);
        }
        holds("something was asked", asked > askedBefore);
        sentence = "";
    }

    void due(String call, long got, long want) {
        asked++;
        if (got != want) {
            wrong++;
            System.out.println(sentence + call + " answered " + got + ", due is " + want);
        }
    }

    void holds(String what, boolean itHolds) {
        asked++;
        if (!itHolds) {
            wrong++;
            System.out.println(sentence + "does not hold: " + what);
        }
    }

    /**
     * The cells given as x, y, weight, x, y, weight ...; all others must have the weight 0.
     * Once for an object: it takes 256 of the 512 calls after which an object's answers are free.
     */
    void map(String when, ScanMatcher m, int... cells) {
        int[] want = new int[256];
        for (int i = 0; i < cells.length; i += 3) {
            want[16 * cells[i + 1] + cells[i]] = cells[i + 2];
        }
        weights(when, m, want);
    }

    /** The weight of cell (x, y) stands at 16 y + x; once for an object. */
    void weights(String when, ScanMatcher m, int[] want) {
        holds(when + ": the map is read for the first time", read.add(m));
        for (int y = 0; y < 16; y++) {
            for (int x = 0; x < 16; x++) {
                due(when + ": weight(" + x + ", " + y + ")", m.weight(x, y), want[16 * y + x]);
            }
        }
    }

    /** Asks which points the scan has, by a stamp with 1 at (8, 8) on a map that is made empty for it. */
    void scan(String when, ScanMatcher m, int... uv) {
        int points = uv.length / 2;
        Scene.fill(m, 0);
        due(when + ": points()", m.points(), points);
        due(when + ": stamp(136, 1)", m.stamp(136, 1), points);
        int[] want = new int[256];
        for (int i = 0; i < points; i++) {
            want[16 * (8 + uv[2 * i + 1]) + 8 + uv[2 * i]]++;
        }
        weights(when, m, want);
    }

    /** The call answers the code and changes nothing, whatever came before it. */
    void refused(String call, int code, ToIntFunction<ScanMatcher> it) {
        for (Scene scene : Scene.values()) {
            changesNothing(scene, call, code, it);
        }
    }

    void changesNothing(Scene scene, String call, int answer, ToIntFunction<ScanMatcher> it) {
        due(scene + ": " + call, it.applyAsInt(scene.make()), answer);
        changesNothing(scene, call, it);
    }

    void changesNothing(Scene scene, String call, ToIntFunction<ScanMatcher> it) {
        int[] before = scene.stateAfter(m -> { });
        int[] after = scene.stateAfter(it::applyAsInt);
        holds(scene + ": " + call + " changes nothing", Arrays.equals(before, after));
    }

    /**
     * Each range is its least and its greatest number. The call is refused with BAD_ARG if one argument is outside of
     * its range, wherever the others are in theirs, and not refused so if all stand at an end of their ranges.
     */
    void ranges(String name, Call call, int[]... ranges) {
        int places = ranges.length;
        for (int ends = 0; ends < 1 << places; ends++) {
            int[] a = new int[places];
            for (int i = 0; i < places; i++) {
                a[i] = ranges[i][ends >> i & 1];
            }
            for (Scene scene : Scene.values()) {
                boolean taken = call.on(scene.make(), a) != ScanMatcher.BAD_ARG;
                holds(scene + ": " + name + Arrays.toString(a) + " is not BAD_ARG", taken);
            }
            for (int i = 0; i < places; i++) {
                outside(name, call, a, i, ranges[i]);
            }
        }
    }

    private void outside(String name, Call call, int[] inside, int place, int[] range) {
        int[] bad = Arrays.copyOf(FAR, FAR.length + 2);
        bad[FAR.length] = range[0] - 1;
        bad[FAR.length + 1] = range[1] + 1;
        for (int value : bad) {
            int[] a = inside.clone();
            a[place] = value;
            refused(name + Arrays.toString(a), ScanMatcher.BAD_ARG, m -> call.on(m, a));
        }
    }

    void end() {
        System.out.println(test + ": " + asked + " asked, " + wrong + " wrong");
        if (wrong != 0 || asked == 0) {
            System.exit(1);
        }
    }
}

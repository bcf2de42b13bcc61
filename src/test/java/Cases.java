/**
 * Cases with a name each. A case fails if one of its answers is not the one that is due, if it throws, or if it
 * looks at nothing; it then is told by its name, and the others still run.
 */
abstract class Cases {
    static final int BAD = -1000;
    static final int FULL = -2000;
    static final int NONE = -3000;
    static final int LOW = -4000;

    static final int POINTS = 7;
    static final int ARCS = 20;
    static final int WALK_ENGINES = 5;
    static final int MEAN_ENGINES = 2;
    static final int ALL_POINTS = 127;
    static final int ALL_ARCS = 1048575;

    // Just outside, then numbers that a narrower type or a shift would take for one inside.
    static final int[] NO_POINTS = {-1, 7, 8, -7, 32, -32, 256, 65536, Integer.MIN_VALUE, Integer.MAX_VALUE};
    static final int[] NO_WEIGHTS = {-21, 21, 256, -256, 65536, Integer.MIN_VALUE, Integer.MAX_VALUE};
    static final int[] NO_ARCS = {-1, 20, 31, 32, -32, 256, 65536, Integer.MIN_VALUE, Integer.MAX_VALUE};
    static final int[] NO_WALK_ENGINES = {-1, 5, 32, 256, 65536, Integer.MIN_VALUE, Integer.MAX_VALUE};
    static final int[] NO_MEAN_ENGINES = {-1, 2, 3, 4, 32, 256, 65536, Integer.MIN_VALUE, Integer.MAX_VALUE};

    private static String name = "";
    private static int cases = 0;
    private static int failed = 0;
    private static int looked = 0;
    private static int wrong = 0;
    private static int wrongInAll = 0;

    static void test(String caseName, Runnable body) {
        name = caseName;
        cases++;
        looked = 0;
        wrong = 0;
        try {
            body.run();
        } catch (RuntimeException | StackOverflowError thrown) {
            wrong++;
            System.out.println(name + ": threw " + thrown);
        }
        if (wrong != 0 || looked == 0) {
            failed++;
            System.out.println("NOT KEPT: " + name);
        }
    }

    static void end() {
        System.out.println(cases + " cases, " + failed + " not kept");
        if (failed != 0 || wrongInAll != 0 || cases == 0) {
            System.exit(1);
        }
    }

    static void due(String call, int got, int want) {
        looked++;
        if (got != want) {
            wrong++;
            wrongInAll++;
            System.out.println(name + ": " + call + " answered " + got + ", due is " + want);
        }
    }

    static void due(String call, boolean got, boolean want) {
        due(call, got ? 1 : 0, want ? 1 : 0);
    }

    // What is built before a case looks at anything does not count as looked at.
    private static void built(int got, int want) {
        due("add while building", got, want);
        looked--;
    }

    /** Three numbers for each arc: where it comes from, where it goes to, its weight. */
    static PathSuite network(int... arcs) {
        PathSuite x = new PathSuite();
        for (int i = 0; i < arcs.length; i += 3) {
            built(x.add(arcs[i], arcs[i + 1], arcs[i + 2]), i / 3);
        }
        return x;
    }

    /** The ring 0, 1, .. with these weights; arc k goes from point k. */
    static PathSuite ring(int... weights) {
        PathSuite x = new PathSuite();
        for (int k = 0; k < weights.length; k++) {
            built(x.add(k, (k + 1) % weights.length, weights[k]), k);
        }
        return x;
    }

    static PathSuite full(int a, int b, int weight) {
        PathSuite x = new PathSuite();
        for (int k = 0; k < ARCS; k++) {
            built(x.add(a, b, weight), k);
        }
        return x;
    }

    static int bits(int... numbers) {
        int set = 0;
        for (int number : numbers) {
            set |= 1 << number;
        }
        return set;
    }

    static void dueByEachEngine(PathSuite x, int s, int t, int want) {
        for (int engine = 0; engine < WALK_ENGINES; engine++) {
            due("least(" + engine + ", " + s + ", " + t + ")", x.least(engine, s, t), want);
        }
    }

    static void dueMean(PathSuite x, int top, int bottom) {
        for (int engine = 0; engine < MEAN_ENGINES; engine++) {
            due("meanTop(" + engine + ")", x.meanTop(engine), top);
            due("meanBottom(" + engine + ")", x.meanBottom(engine), bottom);
        }
    }
}

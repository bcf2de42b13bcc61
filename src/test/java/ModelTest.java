import java.util.Random;

/** Many networks, the same ones in each run: every question is asked of the class and of the model. */
public final class ModelTest {
    private static final int NETWORKS = 1500;
    private static final Checks CHECKS = new Checks();

    private final Random random;
    private final String name;
    private final PathSuite suite = new PathSuite();
    private final Model model = new Model();
    // Weights that are a slope between heights give rings of weight 0 out of arcs of both signs.
    private final int[] heights = new int[Model.POINTS];
    private final int points;
    private final int lightest;
    private final int heaviest;

    private ModelTest(int number) {
        random = new Random(number);
        name = "network " + number + ": ";
        points = 1 + random.nextInt(Model.POINTS);
        int slope = random.nextInt(3) * 4;
        for (int p = 0; p < Model.POINTS; p++) {
            heights[p] = slope == 0 ? 0 : random.nextInt(2 * slope + 1) - slope;
        }
        int[][] ranges = {{0, 0}, {0, 1}, {0, 4}, {-1, 6}, {-2, 4}, {-4, 20}, {-20, 20}, {-20, -20}, {-30, 30}};
        int[] range = ranges[random.nextInt(ranges.length)];
        lightest = range[0];
        heaviest = range[1];
    }

    public static void main(String[] args) {
        for (int number = 0; number < NETWORKS; number++) {
            ModelTest test = new ModelTest(number);
            test.build();
            test.model.list();
            test.askWalks();
            test.askPoints();
            test.askWhole();
        }
        CHECKS.end();
    }

    private void due(String call, int got, int want) {
        CHECKS.due(name + call, got, want);
    }

    private int point() {
        return random.nextInt(25) == 0 ? random.nextInt(13) - 3 : random.nextInt(points);
    }

    private int weight(int a, int b) {
        int slope = a < 0 || b < 0 || a > 6 || b > 6 ? 0 : heights[b] - heights[a];
        return slope + lightest + random.nextInt(heaviest - lightest + 1);
    }

    // An object is used for at most 512 calls; the questions below need 390 of them.
    private void build() {
        int calls = random.nextInt(60);
        for (int call = 0; call < calls; call++) {
            int kind = random.nextInt(10);
            int k = random.nextInt(24) - 2;
            int a = point();
            int b = point();
            int weight = weight(a, b);
            if (kind == 0) {
                due("remove(" + k + ")", suite.remove(k), model.remove(k));
            } else if (kind == 1) {
                due("change(" + k + ", " + weight + ")", suite.change(k, weight), model.change(k, weight));
            } else {
                due("add(" + a + ", " + b + ", " + weight + ")", suite.add(a, b, weight), model.add(a, b, weight));
            }
        }
        due("arcs()", suite.arcs(), model.arcs());
    }

    private void askWalks() {
        for (int s = 0; s < Model.POINTS; s++) {
            for (int t = 0; t < Model.POINTS; t++) {
                int least = model.least(s, t);
                String walk = s + ", " + t + ")";
                for (int engine = 0; engine < 5; engine++) {
                    due("least(" + engine + ", " + walk, suite.least(engine, s, t), least);
                }
                due("fewest(" + walk, suite.fewest(s, t), model.fewest(s, t));
                due("on(" + walk, suite.on(s, t), model.on(s, t));
            }
        }
    }

    private void askPoints() {
        for (int s = 0; s < Model.POINTS; s++) {
            due("reached(" + s + ")", suite.reached(s), model.reached(s));
            due("low(" + s + ")", suite.low(s), model.low(s));
        }
        for (int k = 0; k < Model.ARCS; k++) {
            due("around(" + k + ")", suite.around(k), model.around(k));
        }
        for (int engine = 0; engine < 5; engine++) {
            CHECKS.due(name + "agree(" + engine + ", 4)", suite.agree(engine, 4), true);
        }
    }

    private void askWhole() {
        CHECKS.due(name + "calm()", suite.calm(), model.calm());
        for (int engine = 0; engine < 2; engine++) {
            due("meanTop(" + engine + ")", suite.meanTop(engine), model.meanTop());
            due("meanBottom(" + engine + ")", suite.meanBottom(engine), model.meanBottom());
        }
        due("onLeastRing()", suite.onLeastRing(), model.onLeastRing());
        due("widest()", suite.widest(), model.widest());
        due("arcs() at the end", suite.arcs(), model.arcs());
    }
}

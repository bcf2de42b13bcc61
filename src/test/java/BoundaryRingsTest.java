/** The edges that the document names for rings: the promises 12 to 15. */
public final class BoundaryRingsTest extends Cases {
    public static void main(String[] args) {
        calm();
        noRing();
        means();
        comparedMeans();
        noSuchEngine();
        onLeastRing();
        end();
    }

    private static int commonDivisor(int a, int b) {
        return b == 0 ? Math.abs(a) : commonDivisor(b, a % b);
    }

    // A ring of that many arcs with that weight, spread from the first arc on.
    private static PathSuite ringOf(int length, int weight) {
        int[] weights = new int[length];
        int rest = weight + 20 * length;
        for (int k = 0; k < length; k++) {
            int part = Math.min(rest, 40);
            weights[k] = part - 20;
            rest -= part;
        }
        return ring(weights);
    }

    // The ring of seven has the weight last, the ring of six, by the arc from 5 to 0, the weight chord.
    private static PathSuite sevenAndSix(int last, int chord) {
        PathSuite x = ring(0, 0, 0, 0, 0, 0, last);
        x.add(5, 0, chord);
        return x;
    }

    private static void calm() {
        test("Promise 12: no ring at all", () -> {
            due("calm()", new PathSuite().calm(), true);
            due("calm()", full(0, 6, -20).calm(), true);
            due("calm()", network(0, 1, -20, 1, 2, -20, 0, 2, -20, 2, 6, -20).calm(), true);
        });
        test("Promise 12: a ring of 0 is not below 0, of each length", () -> {
            for (int length = 1; length <= POINTS; length++) {
                due("calm() with " + length, ringOf(length, 0).calm(), true);
            }
        });
        test("Promise 12: a ring of -1 is below 0, of each length", () -> {
            for (int length = 1; length <= POINTS; length++) {
                due("calm() with " + length, ringOf(length, -1).calm(), false);
            }
        });
        test("Promise 12: a ring of 1 is not below 0, of each length", () -> {
            for (int length = 1; length <= POINTS; length++) {
                due("calm() with " + length, ringOf(length, 1).calm(), true);
            }
        });
        test("Promise 12: the lightest and the heaviest ring", () -> {
            due("calm()", ringOf(7, -140).calm(), false);
            due("calm()", ringOf(7, 140).calm(), true);
        });
        test("Promise 12: one ring below 0 beside many that are not", () -> {
            PathSuite x = full(0, 0, 20);
            due("calm()", x.calm(), true);
            x.change(19, -1);
            due("calm()", x.calm(), false);
            x.change(19, 0);
            due("calm()", x.calm(), true);
        });
        test("Promise 12: a ring below 0 at each point, reached from nowhere", () -> {
            for (int p = 0; p < POINTS; p++) {
                due("calm()", network((p + 1) % POINTS, (p + 2) % POINTS, 20, p, p, -1).calm(), false);
            }
        });
        test("Promise 12: asking does not change the answer", () -> {
            PathSuite x = ringOf(3, -1);
            due("calm()", x.calm(), false);
            due("calm() again", x.calm(), false);
            x.remove(0);
            due("calm() without the ring", x.calm(), true);
        });
    }

    private static void noRing() {
        PathSuite[] networks = {new PathSuite(), full(0, 6, -20),
            network(0, 1, 20, 1, 2, 20, 2, 3, 20, 3, 4, 20, 4, 5, 20, 5, 6, 20, 0, 6, -20)};
        String[] names = {"no arcs", "twenty arcs from 0 to 6", "a chain of six"};
        for (int i = 0; i < networks.length; i++) {
            PathSuite x = networks[i];
            test("Promise 13: NONE when there is no ring, " + names[i], () -> {
                due("meanTop(0)", x.meanTop(0), NONE);
                due("meanTop(1)", x.meanTop(1), NONE);
            });
            test("Promise 14: NONE when there is no ring, " + names[i], () -> {
                due("meanBottom(0)", x.meanBottom(0), NONE);
                due("meanBottom(1)", x.meanBottom(1), NONE);
            });
            test("Promise 15: 0 when there is no ring, " + names[i], () -> due("onLeastRing()", x.onLeastRing(), 0));
        }
        test("Promises 13 to 15: no ring any more, and one again", () -> {
            PathSuite x = ringOf(2, 7);
            dueMean(x, 7, 2);
            x.remove(1);
            dueMean(x, NONE, NONE);
            due("onLeastRing()", x.onLeastRing(), 0);
            x.add(1, 0, -20);
            dueMean(x, 0, 1);
            due("onLeastRing()", x.onLeastRing(), bits(0, 1));
        });
    }

    private static void means() {
        test("Promises 13 and 14: without common divisor, every weight of a ring of each length", () -> {
            for (int length = 1; length <= POINTS; length++) {
                for (int weight = -20 * length; weight <= 20 * length; weight++) {
                    int divisor = commonDivisor(weight, length);
                    dueMean(ringOf(length, weight), weight / divisor, length / divisor);
                }
            }
        });
        test("Promises 13 and 14: the mean 0 is 0 / 1", () -> {
            for (int length = 1; length <= POINTS; length++) {
                dueMean(ringOf(length, 0), 0, 1);
            }
        });
        test("Promises 13 and 14: the bottom is above 0 when the mean is below 0", () -> {
            dueMean(ringOf(7, -1), -1, 7);
            dueMean(ringOf(2, -3), -3, 2);
            dueMean(ringOf(6, -4), -2, 3);
        });
        test("Promises 13 and 14: the lightest and the heaviest mean", () -> {
            dueMean(network(6, 6, -20), -20, 1);
            dueMean(network(6, 6, 20), 20, 1);
            dueMean(ringOf(7, -140), -20, 1);
            dueMean(ringOf(7, 140), 20, 1);
            dueMean(ringOf(7, -139), -139, 7);
            dueMean(ringOf(7, 139), 139, 7);
        });
        test("Promises 13 and 14: a ring at each point alone", () -> {
            for (int p = 0; p < POINTS; p++) {
                dueMean(network(p, p, 3, (p + 6) % POINTS, p, -20), 3, 1);
            }
        });
        test("Promises 13 and 14: arcs that are on no ring count for nothing", () -> {
            dueMean(network(0, 1, -20, 1, 1, 5, 1, 2, -20, 3, 2, -20), 5, 1);
        });
    }

    private static void comparedMeans() {
        test("Promises 13 and 14: 1 / 7 is less than 1 / 6", () -> {
            PathSuite x = sevenAndSix(1, 1);
            dueMean(x, 1, 7);
            due("onLeastRing()", x.onLeastRing(), ALL_POINTS);
        });
        test("Promises 13 and 14: -1 / 6 is less than -1 / 7", () -> {
            PathSuite x = sevenAndSix(-1, -1);
            dueMean(x, -1, 6);
            due("onLeastRing()", x.onLeastRing(), bits(0, 1, 2, 3, 4, 5));
        });
        test("Promises 13 and 14: 0 / 6 is less than 1 / 7, and more than -1 / 7", () -> {
            dueMean(sevenAndSix(1, 0), 0, 1);
            dueMean(sevenAndSix(-1, 0), -1, 7);
        });
        test("Promises 13 and 14: by the mean, not by the weight", () -> {
            PathSuite light = network(0, 0, 2, 1, 2, 1, 2, 3, 1, 3, 1, 1);
            dueMean(light, 1, 1);
            due("onLeastRing()", light.onLeastRing(), bits(1, 2, 3));
            PathSuite deep = network(0, 0, -2, 1, 2, -1, 2, 3, -1, 3, 1, -1);
            dueMean(deep, -2, 1);
            due("onLeastRing()", deep.onLeastRing(), bits(0));
        });
        test("Promises 13 and 14: wherever the least of twenty loops stands", () -> {
            for (int k = 0; k < ARCS; k++) {
                PathSuite x = full(4, 4, 0);
                x.change(k, -1);
                dueMean(x, -1, 1);
            }
        });
        test("Promise 14: the bottom asked for before the top", () -> {
            for (int engine = 0; engine < MEAN_ENGINES; engine++) {
                PathSuite x = ringOf(5, 3);
                due("meanBottom(" + engine + ")", x.meanBottom(engine), 5);
                due("change(0, 19)", x.change(0, 19), 20);
                due("meanBottom(" + engine + ") after change", x.meanBottom(engine), 5);
                x.remove(4);
                due("meanBottom(" + engine + ") without the ring", x.meanBottom(engine), NONE);
                x.add(3, 0, 1);
                due("meanBottom(" + engine + ") of a ring of four", x.meanBottom(engine), 4);
            }
        });
        test("Promises 13 to 15: whatever was asked before", () -> {
            for (int engine = 0; engine < MEAN_ENGINES; engine++) {
                for (int s = 0; s < POINTS; s++) {
                    PathSuite x = network(6, 6, 2, 5, 6, -20, 6, 4, -20, 3, 3, 4, 2, 2, 3);
                    due("fewest(" + s + ", " + s + ")", x.fewest(s, s), 0);
                    due("meanTop(" + engine + ")", x.meanTop(engine), 2);
                    due("fewest(" + s + ", " + s + ")", x.fewest(s, s), 0);
                    due("meanBottom(" + engine + ")", x.meanBottom(engine), 1);
                    due("fewest(" + s + ", " + s + ")", x.fewest(s, s), 0);
                    due("onLeastRing()", x.onLeastRing(), bits(6));
                }
            }
        });
        test("Promises 13 and 14: no engine changes the answer of the other", () -> {
            PathSuite x = ringOf(4, 6);
            due("meanTop(0)", x.meanTop(0), 3);
            due("meanBottom(1)", x.meanBottom(1), 2);
            due("meanTop(1)", x.meanTop(1), 3);
            due("meanBottom(0)", x.meanBottom(0), 2);
        });
    }

    private static void noSuchEngine() {
        test("Promise 13: BAD when engine is not 0 or 1", () -> {
            PathSuite x = ringOf(3, 2);
            for (int engine : NO_MEAN_ENGINES) {
                due("meanTop(" + engine + ")", x.meanTop(engine), BAD);
            }
        });
        test("Promise 13: BAD is tested before NONE", () -> {
            PathSuite x = new PathSuite();
            for (int engine : NO_MEAN_ENGINES) {
                due("meanTop(" + engine + ")", x.meanTop(engine), BAD);
            }
        });
        test("Promise 14: BAD when engine is not 0 or 1", () -> {
            PathSuite x = ringOf(3, 2);
            for (int engine : NO_MEAN_ENGINES) {
                due("meanBottom(" + engine + ")", x.meanBottom(engine), BAD);
            }
        });
        test("Promise 14: BAD is tested before NONE", () -> {
            PathSuite x = new PathSuite();
            for (int engine : NO_MEAN_ENGINES) {
                due("meanBottom(" + engine + ")", x.meanBottom(engine), BAD);
            }
        });
    }

    private static void onLeastRing() {
        test("Promise 15: each point alone", () -> {
            for (int p = 0; p < POINTS; p++) {
                due("onLeastRing()", network(p, p, -20).onLeastRing(), bits(p));
                due("onLeastRing()", network(p, p, 20).onLeastRing(), bits(p));
            }
        });
        test("Promise 15: all points, by one ring and by seven", () -> {
            due("onLeastRing()", ringOf(7, 1).onLeastRing(), ALL_POINTS);
            PathSuite x = new PathSuite();
            for (int p = 0; p < POINTS; p++) {
                x.add(p, p, 4);
            }
            due("onLeastRing()", x.onLeastRing(), ALL_POINTS);
        });
        test("Promise 15: rings of different lengths with the same mean", () -> {
            PathSuite x = network(0, 0, 1, 1, 2, -3, 2, 1, 5, 3, 4, 1, 4, 5, 0, 5, 3, 2, 6, 6, 2);
            due("onLeastRing()", x.onLeastRing(), bits(0, 1, 2, 3, 4, 5));
            dueMean(x, 1, 1);
        });
        test("Promise 15: a mean that is greater by the least step, 1 / 42", () -> {
            // The ring of seven has 6 / 7; the ring of six 5 / 6, and then 6 / 6.
            PathSuite x = sevenAndSix(6, 5);
            dueMean(x, 5, 6);
            due("onLeastRing()", x.onLeastRing(), bits(0, 1, 2, 3, 4, 5));
            x.change(7, 6);
            dueMean(x, 6, 7);
            due("onLeastRing()", x.onLeastRing(), ALL_POINTS);
        });
        test("Promise 15: a walk that comes to a point twice is no ring", () -> {
            // The walk 0, 1, 1, 1, 0 has a mean near that of the loop, but 0 is on a heavier ring only.
            PathSuite x = network(0, 1, 2, 1, 0, 2, 1, 1, 1);
            due("onLeastRing()", x.onLeastRing(), bits(1));
            x.change(2, 2);
            due("onLeastRing()", x.onLeastRing(), bits(0, 1));
            x.change(2, 3);
            due("onLeastRing()", x.onLeastRing(), bits(0, 1));
            dueMean(x, 2, 1);
        });
        test("Promise 15: not the points that only lead to the ring or away from it", () -> {
            PathSuite x = network(0, 1, -20, 1, 2, 3, 2, 1, 4, 2, 3, -20);
            due("onLeastRing()", x.onLeastRing(), bits(1, 2));
        });
        test("Promise 15: below 0, 0 and above 0", () -> {
            for (int weight = -1; weight <= 1; weight++) {
                due("onLeastRing()", network(2, 3, weight, 3, 2, 0, 5, 5, 1).onLeastRing(), bits(2, 3));
            }
        });
    }
}

/** The edges that the document names for walks: the promises 6 to 11, 16 and 17. */
public final class BoundaryWalksTest extends Cases {
    public static void main(String[] args) {
        least();
        leastNone();
        leastLow();
        leastBad();
        agree();
        fewest();
        on();
        reached();
        low();
        around();
        widest();
        end();
    }

    private static PathSuite chain(int weight) {
        return network(0, 1, weight, 1, 2, weight, 2, 3, weight, 3, 4, weight, 4, 5, weight, 5, 6, weight);
    }

    // The same chain with its arcs in the order in which one round over them uses only one of them.
    private static PathSuite chainFromItsEnd(int weight) {
        return network(5, 6, weight, 4, 5, weight, 3, 4, weight, 2, 3, weight, 1, 2, weight, 0, 1, weight);
    }

    private static void dueForAllPoints(PathSuite x, int want) {
        for (int s = 0; s < POINTS; s++) {
            for (int t = 0; t < POINTS; t++) {
                dueByEachEngine(x, s, t, want);
            }
        }
    }

    private static void least() {
        test("Promise 6: the empty list is a walk from s to s", () -> {
            PathSuite x = network(0, 0, 20, 1, 1, 1, 2, 2, 0, 3, 4, 5, 4, 3, -5);
            for (int s = 0; s < POINTS; s++) {
                dueByEachEngine(x, s, s, 0);
            }
        });
        test("Promise 6: the heaviest least walk, 120", () -> {
            dueByEachEngine(chain(20), 0, 6, 120);
            dueByEachEngine(chainFromItsEnd(20), 0, 6, 120);
        });
        test("Promise 6: the lightest least walk, -120", () -> {
            dueByEachEngine(chain(-20), 0, 6, -120);
            dueByEachEngine(chainFromItsEnd(-20), 0, 6, -120);
        });
        test("Promise 6: six arcs are lighter than one by 1", () -> {
            PathSuite x = chainFromItsEnd(-3);
            x.add(0, 6, -17);
            dueByEachEngine(x, 0, 6, -18);
        });
        test("Promise 6: one arc is lighter than six by 1", () -> {
            PathSuite x = chain(-3);
            x.add(0, 6, -19);
            dueByEachEngine(x, 0, 6, -19);
        });
        test("Promise 6: the lightest of twenty arcs, wherever it stands", () -> {
            for (int k = 0; k < ARCS; k++) {
                PathSuite x = full(6, 0, 20);
                x.change(k, 19);
                dueByEachEngine(x, 6, 0, 19);
            }
        });
        test("Promise 6: a walk may use arcs and points again, each weighs as often as it is used", () -> {
            // Once around the ring the walk from 0 to 3 would weigh 39, and without it 40.
            PathSuite x = network(0, 1, 20, 1, 2, -20, 2, 1, 19, 1, 3, 20);
            dueByEachEngine(x, 0, 3, LOW);
            x.change(2, 20);
            dueByEachEngine(x, 0, 3, 40);
            x.change(2, 18);
            dueByEachEngine(x, 0, 3, LOW);
        });
        test("Promise 6: the least weight 0 is a weight", () -> {
            PathSuite x = network(0, 1, 0, 1, 2, 20, 2, 3, -20);
            dueByEachEngine(x, 0, 1, 0);
            dueByEachEngine(x, 0, 3, 0);
        });
    }

    private static void leastNone() {
        test("Promise 6: NONE when there is none, against the only arc", () -> {
            PathSuite x = network(0, 6, -20);
            dueByEachEngine(x, 6, 0, NONE);
            dueByEachEngine(x, 0, 6, -20);
        });
        test("Promise 6: NONE when there is none, one arc is missing", () -> {
            for (int k = 0; k < 6; k++) {
                PathSuite x = chain(20);
                x.remove(k);
                dueByEachEngine(x, 0, 6, NONE);
                dueByEachEngine(x, 0, k, 20 * k);
                dueByEachEngine(x, k + 1, 6, 20 * (5 - k));
            }
        });
        test("Promise 6: NONE when there is none, although s is on a ring below 0", () -> {
            PathSuite x = network(0, 1, -20, 1, 0, -20, 2, 2, 1);
            dueByEachEngine(x, 0, 2, NONE);
            dueByEachEngine(x, 1, 6, NONE);
        });
        test("Promise 6: NONE when there is none, although t is on a ring below 0", () -> {
            PathSuite x = network(0, 1, -20, 1, 0, -20, 2, 2, 1);
            dueByEachEngine(x, 2, 0, NONE);
            dueByEachEngine(x, 6, 1, NONE);
        });
        test("Promise 6: NONE when there is none, twenty arcs elsewhere", () -> {
            PathSuite x = full(3, 3, -20);
            for (int p = 0; p < POINTS; p++) {
                if (p != 3) {
                    dueByEachEngine(x, p, 3, NONE);
                    dueByEachEngine(x, 3, p, NONE);
                    dueByEachEngine(x, p, p, 0);
                }
            }
        });
    }

    private static void leastLow() {
        test("Promise 6: LOW when a loop at s is below 0", () -> {
            PathSuite x = network(0, 0, -1, 0, 1, 20);
            dueByEachEngine(x, 0, 1, LOW);
            dueByEachEngine(x, 0, 0, LOW);
            dueByEachEngine(x, 1, 1, 0);
        });
        test("Promise 6: LOW when a loop at t is below 0", () -> {
            PathSuite x = network(0, 1, 20, 1, 1, -1);
            dueByEachEngine(x, 0, 1, LOW);
            dueByEachEngine(x, 1, 1, LOW);
            dueByEachEngine(x, 0, 0, 0);
        });
        test("Promise 6: LOW when a ring below 0 lies on the way, at each point of the longest one", () -> {
            for (int p = 0; p < POINTS; p++) {
                PathSuite x = chain(20);
                x.add(p, p, -1);
                dueByEachEngine(x, 0, 6, LOW);
                PathSuite y = chainFromItsEnd(20);
                y.add(p, p, -1);
                dueByEachEngine(y, 0, 6, LOW);
            }
        });
        test("Promise 6: LOW by a ring of each length with the weight -1", () -> {
            for (int length = 1; length <= POINTS; length++) {
                int[] weights = new int[length];
                weights[length - 1] = -1;
                PathSuite x = ring(weights);
                for (int p = 0; p < length; p++) {
                    dueByEachEngine(x, p, p, LOW);
                    dueByEachEngine(x, 0, p, LOW);
                    dueByEachEngine(x, p, 0, LOW);
                }
            }
        });
        test("Promise 6: LOW by a ring of each length between s and t", () -> {
            for (int length = 1; length <= 5; length++) {
                for (int out = 0; out < length; out++) {
                    int[] weights = new int[length];
                    weights[0] = -1;
                    PathSuite x = ring(weights);
                    x.add(5, 0, 20);
                    x.add(out, 6, 20);
                    dueByEachEngine(x, 5, 6, LOW);
                    dueByEachEngine(x, 5, 5, 0);
                    dueByEachEngine(x, 6, 6, 0);
                    dueByEachEngine(x, 6, 5, NONE);
                }
            }
        });
        test("Promise 6: LOW wherever the only loop below 0 stands among twenty", () -> {
            for (int k = 0; k < ARCS; k++) {
                PathSuite x = full(2, 2, 0);
                dueByEachEngine(x, 2, 2, 0);
                x.change(k, -1);
                dueByEachEngine(x, 2, 2, LOW);
            }
        });
        test("Promise 6: LOW comes to every point behind a loop, against the order of the arcs", () -> {
            // From 6 each point is lighter at once than the way by the loop makes it for long.
            PathSuite x = network(4, 5, 0, 3, 4, 0, 2, 3, 0, 1, 2, 0, 0, 1, 20, 0, 0, -1, 6, 0, 20,
                    6, 1, -20, 6, 2, -20, 6, 3, -20, 6, 4, -20, 6, 5, -20);
            for (int t = 0; t < 6; t++) {
                dueByEachEngine(x, 6, t, LOW);
            }
            dueByEachEngine(x, 6, 6, 0);
        });
        test("Promise 6: not LOW by a ring of each length with the weight 0", () -> {
            for (int length = 1; length <= POINTS; length++) {
                int[] weights = new int[length];
                weights[0] += 20;
                weights[length - 1] -= 20;
                PathSuite x = ring(weights);
                for (int p = 0; p < length; p++) {
                    dueByEachEngine(x, p, p, 0);
                }
                dueByEachEngine(x, 0, length - 1, length == 1 ? 0 : 20);
            }
        });
        test("Promise 6: not LOW by a ring below 0 that is reached but does not lead to t", () -> {
            PathSuite x = network(0, 1, 5, 0, 2, 1, 2, 3, -20, 3, 2, -20);
            dueByEachEngine(x, 0, 1, 5);
            dueByEachEngine(x, 0, 0, 0);
            dueByEachEngine(x, 0, 3, LOW);
        });
        test("Promise 6: not LOW by a ring below 0 that leads to t but is not reached", () -> {
            PathSuite x = network(0, 1, 5, 2, 1, 1, 2, 3, -20, 3, 2, -20);
            dueByEachEngine(x, 0, 1, 5);
            dueByEachEngine(x, 1, 1, 0);
            dueByEachEngine(x, 3, 1, LOW);
        });
        test("Promise 6: LOW although a light way passes the ring by", () -> {
            PathSuite x = network(0, 6, -20, 0, 1, 20, 1, 2, 20, 2, 2, -1, 2, 3, 20, 3, 6, 20);
            dueByEachEngine(x, 0, 6, LOW);
            x.change(3, 0);
            dueByEachEngine(x, 0, 6, -20);
        });
        test("Promise 6: LOW for all points, the lightest weights everywhere", () -> {
            PathSuite x = new PathSuite();
            for (int k = 0; k < ARCS; k++) {
                x.add(k % POINTS, (k + 1) % POINTS, -20);
            }
            dueForAllPoints(x, LOW);
        });
        test("Promise 6: LOW for all points, one ring of seven with the weight -1", () ->
            dueForAllPoints(ring(20, 20, 20, -20, -20, -20, -1), LOW));
        test("Promise 6: LOW ends when the ring is opened", () -> {
            PathSuite x = ring(20, 20, 20, -20, -20, -20, -1);
            dueByEachEngine(x, 0, 6, LOW);
            x.remove(6);
            dueByEachEngine(x, 0, 6, 0);
            dueByEachEngine(x, 0, 3, 60);
            dueByEachEngine(x, 6, 0, NONE);
        });
    }

    private static void leastBad() {
        PathSuite[] networks = {new PathSuite(), chain(4), ring(0, 0, 0, 0, 0, 0, -1)};
        String[] names = {"no arcs", "a chain", "LOW everywhere"};
        for (int i = 0; i < networks.length; i++) {
            PathSuite x = networks[i];
            test("Promise 6: BAD when s is not 0 .. 6, " + names[i], () -> {
                for (int p : NO_POINTS) {
                    dueByEachEngine(x, p, 0, BAD);
                }
                dueByEachEngine(x, 7, 6, BAD);
                dueByEachEngine(x, -1, 6, BAD);
            });
            test("Promise 6: BAD when t is not 0 .. 6, " + names[i], () -> {
                for (int p : NO_POINTS) {
                    dueByEachEngine(x, 0, p, BAD);
                }
                dueByEachEngine(x, 6, 7, BAD);
                dueByEachEngine(x, 6, -1, BAD);
            });
            test("Promise 6: BAD when there is no such engine, " + names[i], () -> {
                for (int engine : NO_WALK_ENGINES) {
                    due("least(" + engine + ", 0, 0)", x.least(engine, 0, 0), BAD);
                    due("least(" + engine + ", 0, 6)", x.least(engine, 0, 6), BAD);
                    due("least(" + engine + ", 6, 0)", x.least(engine, 6, 0), BAD);
                }
            });
            test("Promise 6: BAD when all three are wrong, " + names[i], () -> {
                due("least(5, 7, 7)", x.least(5, 7, 7), BAD);
                due("least(-1, -1, -1)", x.least(-1, -1, -1), BAD);
            });
        }
    }

    private static void agree() {
        PathSuite[] networks = {new PathSuite(), chainFromItsEnd(-20), full(0, 0, 20), full(6, 6, -20),
            ring(20, 20, 20, -20, -20, -20, 0), ring(20, 20, 20, -20, -20, -20, -1)};
        String[] names = {"no arcs", "a chain", "twenty loops", "twenty loops below 0", "a ring of 0", "LOW everywhere"};
        for (int i = 0; i < networks.length; i++) {
            PathSuite x = networks[i];
            test("Promise 7: any two engines find the same, " + names[i], () -> {
                for (int engine = 0; engine < WALK_ENGINES; engine++) {
                    for (int other = 0; other < WALK_ENGINES; other++) {
                        due("agree(" + engine + ", " + other + ")", x.agree(engine, other), true);
                    }
                }
            });
            test("Promise 7: false when the first is none, " + names[i], () -> {
                for (int none : NO_WALK_ENGINES) {
                    due("agree(" + none + ", 0)", x.agree(none, 0), false);
                    due("agree(" + none + ", 4)", x.agree(none, 4), false);
                }
            });
            test("Promise 7: false when the second is none, " + names[i], () -> {
                for (int none : NO_WALK_ENGINES) {
                    due("agree(0, " + none + ")", x.agree(0, none), false);
                    due("agree(4, " + none + ")", x.agree(4, none), false);
                }
            });
            test("Promise 7: false when both are none, even the same, " + names[i], () -> {
                for (int none : NO_WALK_ENGINES) {
                    due("agree(" + none + ", " + none + ")", x.agree(none, none), false);
                    due("agree(" + none + ", 5)", x.agree(none, 5), false);
                }
            });
        }
    }

    private static void fewest() {
        test("Promise 8: 0 from a point to itself", () -> {
            PathSuite x = network(0, 0, 0, 1, 2, 4, 2, 1, -4, 3, 3, 20);
            for (int s = 0; s < POINTS; s++) {
                due("fewest(" + s + ", " + s + ")", x.fewest(s, s), 0);
            }
        });
        test("Promise 8: the most, six", () -> {
            for (int weight = -20; weight <= 20; weight += 20) {
                due("fewest(0, 6)", chain(weight).fewest(0, 6), 6);
                due("fewest(0, 6)", chainFromItsEnd(weight).fewest(0, 6), 6);
            }
        });
        test("Promise 8: six arcs that are lighter than one by 1", () -> {
            PathSuite x = chain(3);
            x.add(0, 6, 19);
            due("fewest(0, 6)", x.fewest(0, 6), 6);
            x.change(6, 18);
            due("fewest(0, 6), as heavy", x.fewest(0, 6), 1);
            x.change(6, 17);
            due("fewest(0, 6), lighter", x.fewest(0, 6), 1);
        });
        test("Promise 8: each number between", () -> {
            PathSuite x = chain(0);
            for (int t = 0; t < POINTS; t++) {
                due("fewest(0, " + t + ")", x.fewest(0, t), t);
            }
        });
        test("Promise 8: a ring of 0 on the way does not count", () -> {
            PathSuite x = network(0, 1, 2, 1, 1, 0, 1, 2, 3, 2, 1, -3, 2, 3, 1);
            due("fewest(0, 3)", x.fewest(0, 3), 3);
        });
        test("Promise 8: NONE as there", () -> {
            PathSuite x = network(0, 1, 1, 1, 1, -1);
            due("fewest(0, 6)", x.fewest(0, 6), NONE);
            due("fewest(6, 0)", x.fewest(6, 0), NONE);
            due("fewest(1, 0)", x.fewest(1, 0), NONE);
        });
        test("Promise 8: LOW as there", () -> {
            PathSuite x = network(0, 1, 1, 1, 1, -1, 1, 2, 20, 0, 2, -20);
            due("fewest(0, 1)", x.fewest(0, 1), LOW);
            due("fewest(1, 1)", x.fewest(1, 1), LOW);
            due("fewest(0, 2)", x.fewest(0, 2), LOW);
            due("fewest(0, 0)", x.fewest(0, 0), 0);
            due("fewest(2, 2)", x.fewest(2, 2), 0);
        });
        test("Promise 8: BAD when s is not 0 .. 6", () -> {
            for (int p : NO_POINTS) {
                due("fewest(" + p + ", 0)", new PathSuite().fewest(p, 0), BAD);
                due("fewest(" + p + ", 6)", ring(-1, -1, -1, -1, -1, -1, -1).fewest(p, 6), BAD);
            }
        });
        test("Promise 8: BAD when t is not 0 .. 6", () -> {
            for (int p : NO_POINTS) {
                due("fewest(0, " + p + ")", new PathSuite().fewest(0, p), BAD);
                due("fewest(6, " + p + ")", ring(-1, -1, -1, -1, -1, -1, -1).fewest(6, p), BAD);
            }
        });
        test("Promise 8: BAD when both are none, even the same", () -> {
            for (int p : NO_POINTS) {
                due("fewest(" + p + ", " + p + ")", chain(1).fewest(p, p), BAD);
            }
        });
    }

    private static void on() {
        test("Promise 9: no arc when only the empty walk is least", () -> {
            PathSuite x = network(0, 0, 1, 0, 1, 2, 1, 0, -1);
            due("on(0, 0)", x.on(0, 0), 0);
            due("on(1, 1)", x.on(1, 1), 0);
            due("on(5, 5)", x.on(5, 5), 0);
        });
        test("Promise 9: a ring of 0 from the point to itself", () -> {
            PathSuite x = network(0, 0, 0, 0, 1, 2, 1, 0, -2, 1, 0, -1);
            due("on(0, 0)", x.on(0, 0), bits(0, 1, 2));
            due("on(1, 1)", x.on(1, 1), bits(0, 1, 2));
        });
        test("Promise 9: a walk may come by rings of 0 before, on and behind its way", () -> {
            PathSuite x = network(0, 1, 1, 1, 0, -1, 1, 2, 5, 2, 2, 0, 2, 3, 5, 3, 4, 2, 4, 3, -2, 4, 5, 0);
            due("on(0, 3)", x.on(0, 3), bits(0, 1, 2, 3, 4, 5, 6));
        });
        test("Promise 9: as light ways of one arc and of six", () -> {
            PathSuite x = chain(3);
            x.add(0, 6, 18);
            due("on(0, 6)", x.on(0, 6), bits(0, 1, 2, 3, 4, 5, 6));
            x.change(6, 19);
            due("on(0, 6), six are lighter", x.on(0, 6), bits(0, 1, 2, 3, 4, 5));
            x.change(6, 17);
            due("on(0, 6), one is lighter", x.on(0, 6), bits(6));
        });
        test("Promise 9: each of twenty arcs alone, and all together", () -> {
            due("on(0, 6)", full(0, 6, -20).on(0, 6), ALL_ARCS);
            for (int k = 0; k < ARCS; k++) {
                PathSuite x = full(0, 6, -19);
                x.change(k, -20);
                due("on(0, 6)", x.on(0, 6), bits(k));
            }
        });
        test("Promise 9: 0 when that is NONE", () -> {
            PathSuite x = network(0, 1, 1, 1, 1, -1, 3, 3, 0);
            due("on(0, 6)", x.on(0, 6), 0);
            due("on(6, 1)", x.on(6, 1), 0);
            due("on(1, 0)", x.on(1, 0), 0);
            due("on(3, 6)", x.on(3, 6), 0);
        });
        test("Promise 9: 0 when that is LOW", () -> {
            PathSuite x = network(0, 1, 1, 1, 1, -1, 1, 2, 20, 0, 2, -20);
            due("on(0, 1)", x.on(0, 1), 0);
            due("on(1, 1)", x.on(1, 1), 0);
            due("on(0, 2)", x.on(0, 2), 0);
        });
        test("Promise 9: a ring below 0 beside the walk takes nothing from it", () -> {
            PathSuite x = network(0, 1, 5, 0, 2, 1, 2, 2, -1, 3, 3, -1, 3, 1, 0);
            due("on(0, 1)", x.on(0, 1), bits(0));
        });
        test("Promise 9: BAD when s is not 0 .. 6", () -> {
            for (int p : NO_POINTS) {
                due("on(" + p + ", 0)", new PathSuite().on(p, 0), BAD);
                due("on(" + p + ", 6)", ring(-1, -1, -1, -1, -1, -1, -1).on(p, 6), BAD);
            }
        });
        test("Promise 9: BAD when t is not 0 .. 6", () -> {
            for (int p : NO_POINTS) {
                due("on(0, " + p + ")", new PathSuite().on(0, p), BAD);
                due("on(6, " + p + ")", ring(-1, -1, -1, -1, -1, -1, -1).on(6, p), BAD);
            }
        });
        test("Promise 9: BAD when both are none, even the same", () -> {
            for (int p : NO_POINTS) {
                due("on(" + p + ", " + p + ")", chain(1).on(p, p), BAD);
            }
        });
    }

    private static void reached() {
        test("Promise 10: the point itself, by the empty walk", () -> {
            PathSuite x = network(0, 1, 1);
            due("reached(0)", x.reached(0), bits(0, 1));
            for (int s = 1; s < POINTS; s++) {
                due("reached(" + s + ")", x.reached(s), bits(s));
            }
        });
        test("Promise 10: six arcs away", () -> {
            due("reached(0)", chain(20).reached(0), ALL_POINTS);
            due("reached(0)", chainFromItsEnd(20).reached(0), ALL_POINTS);
            due("reached(6)", chain(20).reached(6), bits(6));
            due("reached(3)", chainFromItsEnd(-20).reached(3), bits(3, 4, 5, 6));
        });
        test("Promise 10: points with LOW are reached too", () -> {
            PathSuite x = network(0, 0, -1, 0, 1, 2, 2, 0, 3);
            due("reached(0)", x.reached(0), bits(0, 1));
            due("reached(2)", x.reached(2), bits(0, 1, 2));
            due("reached(1)", x.reached(1), bits(1));
        });
        test("Promise 10: BAD when s is not 0 .. 6", () -> {
            for (int p : NO_POINTS) {
                due("reached(" + p + ")", new PathSuite().reached(p), BAD);
                due("reached(" + p + ")", ring(1, 1, 1, 1, 1, 1, 1).reached(p), BAD);
            }
        });
    }

    private static void low() {
        test("Promise 11: none, when the rings have the weight 0", () -> {
            PathSuite x = ring(20, 20, 20, -20, -20, -20, 0);
            for (int s = 0; s < POINTS; s++) {
                due("low(" + s + ")", x.low(s), 0);
            }
        });
        test("Promise 11: all, when one ring of seven has the weight -1", () -> {
            PathSuite x = ring(20, 20, 20, -20, -20, -20, -1);
            for (int s = 0; s < POINTS; s++) {
                due("low(" + s + ")", x.low(s), ALL_POINTS);
            }
        });
        test("Promise 11: not the points before the ring, nor those beside it, nor those not reached", () -> {
            PathSuite x = network(0, 1, 20, 1, 1, -1, 1, 2, 20, 0, 3, 1, 4, 0, 2, 5, 2, 1);
            due("low(0)", x.low(0), bits(1, 2));
            due("low(1)", x.low(1), bits(1, 2));
            due("low(4)", x.low(4), bits(1, 2));
            for (int s : new int[] {2, 3, 5, 6}) {
                due("low(" + s + ")", x.low(s), 0);
            }
        });
        test("Promise 11: each point alone", () -> {
            for (int p = 0; p < POINTS; p++) {
                due("low(" + p + ")", network(p, p, -1).low(p), bits(p));
                due("low(" + (p + 1) % POINTS + ")", network(p, p, -1).low((p + 1) % POINTS), 0);
            }
        });
        test("Promise 11: BAD when s is not 0 .. 6", () -> {
            for (int p : NO_POINTS) {
                due("low(" + p + ")", new PathSuite().low(p), BAD);
                due("low(" + p + ")", ring(-1, -1, -1, -1, -1, -1, -1).low(p), BAD);
            }
        });
    }

    private static void around() {
        test("Promise 16: a loop alone, -20 .. 20", () -> {
            for (int weight = -20; weight <= 20; weight++) {
                due("around(0)", network(6, 6, weight).around(0), weight < 0 ? LOW : weight);
            }
        });
        test("Promise 16: begins with arc k, not with a lighter one beside it", () -> {
            PathSuite x = network(0, 1, 20, 0, 1, 3, 1, 0, 4, 1, 0, 9);
            due("around(0)", x.around(0), 24);
            due("around(1)", x.around(1), 7);
            due("around(2)", x.around(2), 7);
            due("around(3)", x.around(3), 12);
        });
        test("Promise 16: the heaviest, 140", () -> {
            PathSuite x = ring(20, 20, 20, 20, 20, 20, 20);
            for (int k = 0; k < POINTS; k++) {
                due("around(" + k + ")", x.around(k), 140);
            }
        });
        test("Promise 16: 0 is a weight", () -> {
            PathSuite x = ring(20, 20, 20, -20, -20, -20, 0);
            for (int k = 0; k < POINTS; k++) {
                due("around(" + k + ")", x.around(k), 0);
            }
        });
        test("Promise 16: NONE when there is none", () -> {
            PathSuite x = chain(-20);
            for (int k = 0; k < 6; k++) {
                due("around(" + k + ")", x.around(k), NONE);
            }
        });
        test("Promise 16: NONE although the arc leaves or reaches a ring below 0", () -> {
            PathSuite x = network(0, 0, -1, 0, 1, 5, 2, 0, 5);
            due("around(1)", x.around(1), NONE);
            due("around(2)", x.around(2), NONE);
        });
        test("Promise 16: LOW as in least, by the arc's own ring", () -> {
            PathSuite x = ring(20, 20, 20, -20, -20, -20, -1);
            for (int k = 0; k < POINTS; k++) {
                due("around(" + k + ")", x.around(k), LOW);
            }
        });
        test("Promise 16: LOW as in least, by another ring on the way back", () -> {
            PathSuite x = network(0, 1, 20, 1, 2, 20, 2, 0, 20, 2, 2, -1, 0, 0, 3);
            for (int k = 0; k < 5; k++) {
                due("around(" + k + ")", x.around(k), LOW);
            }
        });
        test("Promise 16: BAD when there is no arc k, never added or taken away", () -> {
            PathSuite x = network(0, 0, -1, 1, 1, 4);
            x.remove(0);
            due("around(0)", x.around(0), BAD);
            due("around(1)", x.around(1), 4);
            for (int k = 2; k < ARCS; k++) {
                due("around(" + k + ")", x.around(k), BAD);
            }
        });
        test("Promise 16: BAD when there is no arc k, no number of an arc", () -> {
            PathSuite x = full(0, 0, 7);
            for (int k : NO_ARCS) {
                due("around(" + k + ")", x.around(k), BAD);
            }
            due("around(19)", x.around(19), 7);
        });
    }

    private static void widest() {
        test("Promise 17: NONE when there is none, no arcs", () -> due("widest()", new PathSuite().widest(), NONE));
        test("Promise 17: NONE when there is none, a point and itself are not two different ones", () -> {
            PathSuite x = new PathSuite();
            for (int p = 0; p < POINTS; p++) {
                x.add(p, p, 20);
            }
            due("widest()", x.widest(), NONE);
        });
        test("Promise 17: NONE when there is none, all others are LOW", () -> {
            due("widest()", ring(20, 20, 20, -20, -20, -20, -1).widest(), NONE);
            due("widest()", network(0, 0, -1, 0, 1, 20).widest(), NONE);
        });
        test("Promise 17: a point and itself are not counted beside weights below 0", () -> {
            due("widest()", network(0, 1, -20).widest(), -20);
            due("widest()", network(6, 0, -1, 3, 3, 0).widest(), -1);
            due("widest()", chain(-20).widest(), -20);
        });
        test("Promise 17: 0 is a weight", () -> due("widest()", network(5, 4, 0, 0, 1, -1).widest(), 0));
        test("Promise 17: the greatest, 120", () -> {
            due("widest()", chain(20).widest(), 120);
            due("widest()", ring(20, 20, 20, 20, 20, 20, 20).widest(), 120);
        });
        test("Promise 17: of all pairs, each one", () -> {
            for (int s = 0; s < POINTS; s++) {
                for (int t = 0; t < POINTS; t++) {
                    if (s != t) {
                        due("widest()", network(s, t, 9).widest(), 9);
                    }
                }
            }
        });
        test("Promise 17: NONE and LOW are passed over beside a weight", () -> {
            due("widest()", network(0, 0, -1, 0, 1, 20, 3, 4, -20).widest(), -20);
            due("widest()", network(3, 4, -20, 6, 6, -1, 6, 5, 20).widest(), -20);
        });
        test("Promise 17: the least walks count, not heavier ones", () -> {
            PathSuite x = network(0, 1, 20, 0, 1, -3, 1, 2, 1, 0, 2, 19);
            due("widest()", x.widest(), 1);
        });
    }
}

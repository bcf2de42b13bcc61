import java.util.function.Consumer;

/** The edges that the document names for the arcs: the terms, the promises 1 to 5 and 18. */
public final class BoundaryArcsTest extends Cases {
    public static void main(String[] args) {
        terms();
        newObject();
        add();
        remove();
        change();
        arcs();
        refused();
        calls();
        end();
    }

    private static void terms() {
        test("Terms: points 0 .. 6, each may begin and end an arc", () -> {
            for (int a = 0; a < POINTS; a++) {
                for (int b = 0; b < POINTS; b++) {
                    PathSuite x = new PathSuite();
                    due("add(" + a + ", " + b + ", 3)", x.add(a, b, 3), 0);
                    due("reached(" + a + ")", x.reached(a), bits(a, b));
                    due("least(0, " + a + ", " + b + ")", x.least(0, a, b), a == b ? 0 : 3);
                }
            }
        });
        test("Terms: numbers 0 .. 19, each may be removed, changed and asked for", () -> {
            PathSuite x = full(2, 2, 5);
            for (int k = 0; k < ARCS; k++) {
                due("around(" + k + ")", x.around(k), 5);
                due("change(" + k + ", " + k + ")", x.change(k, k), 5);
                due("remove(" + k + ")", x.remove(k), k);
            }
        });
        test("Terms: an arc perhaps goes to the same point", () -> {
            for (int p = 0; p < POINTS; p++) {
                PathSuite x = network(p, p, 7);
                due("around(0)", x.around(0), 7);
                due("reached(" + p + ")", x.reached(p), bits(p));
                due("onLeastRing()", x.onLeastRing(), bits(p));
            }
        });
        test("Terms: a weight is -20 .. 20, each one of them", () -> {
            for (int weight = -20; weight <= 20; weight++) {
                PathSuite x = new PathSuite();
                due("add(4, 5, " + weight + ")", x.add(4, 5, weight), 0);
                dueByEachEngine(x, 4, 5, weight);
                due("remove(0)", x.remove(0), weight);
            }
        });
        test("Terms: several arcs may go from one point to another", () -> {
            PathSuite x = network(0, 1, 3, 0, 1, 3, 0, 1, 2);
            due("arcs()", x.arcs(), bits(0, 1, 2));
            dueByEachEngine(x, 0, 1, 2);
            due("remove(2)", x.remove(2), 2);
            due("on(0, 1)", x.on(0, 1), bits(0, 1));
            due("remove(0)", x.remove(0), 3);
            dueByEachEngine(x, 0, 1, 3);
        });
    }

    private static void newObject() {
        test("Promise 1: no arcs", () -> {
            PathSuite x = new PathSuite();
            due("arcs()", x.arcs(), 0);
            for (int k = 0; k < ARCS; k++) {
                due("around(" + k + ")", x.around(k), BAD);
                due("change(" + k + ", 0)", x.change(k, 0), BAD);
                due("remove(" + k + ")", x.remove(k), BAD);
            }
        });
        test("Promise 1: a new object's questions", () -> {
            PathSuite x = new PathSuite();
            for (int s = 0; s < POINTS; s++) {
                for (int t = 0; t < POINTS; t++) {
                    due("least(" + s + ", " + t + ")", x.least(0, s, t), s == t ? 0 : NONE);
                    due("fewest(" + s + ", " + t + ")", x.fewest(s, t), s == t ? 0 : NONE);
                    due("on(" + s + ", " + t + ")", x.on(s, t), 0);
                }
                due("reached(" + s + ")", x.reached(s), bits(s));
                due("low(" + s + ")", x.low(s), 0);
            }
            due("calm()", x.calm(), true);
            dueMean(x, NONE, NONE);
            due("onLeastRing()", x.onLeastRing(), 0);
            due("widest()", x.widest(), NONE);
        });
        test("Promise 1: a new object beside a full one has no arcs", () -> {
            PathSuite other = full(0, 1, -3);
            PathSuite x = new PathSuite();
            due("arcs()", x.arcs(), 0);
            due("least(0, 0, 1)", x.least(0, 0, 1), NONE);
            due("add(0, 1, 9)", x.add(0, 1, 9), 0);
            due("the other's least(0, 0, 1)", other.least(0, 0, 1), -3);
        });
    }

    private static void add() {
        test("Promise 2: answers 0 first, and 19 last", () -> {
            PathSuite x = new PathSuite();
            for (int k = 0; k < ARCS; k++) {
                due("add", x.add(k % 7, k % 5, k - 10), k);
            }
        });
        test("Promise 2: the least number that none has, after each remove from a full object", () -> {
            for (int k = 0; k < ARCS; k++) {
                PathSuite x = full(0, 1, 1);
                due("remove(" + k + ")", x.remove(k), 1);
                due("add(2, 3, 4)", x.add(2, 3, 4), k);
                due("add(2, 3, 4)", x.add(2, 3, 4), FULL);
                due("on(2, 3)", x.on(2, 3), bits(k));
            }
        });
        test("Promise 2: the least number that none has, of several", () -> {
            PathSuite x = full(0, 1, 1);
            x.remove(19);
            x.remove(4);
            x.remove(0);
            x.remove(11);
            due("add", x.add(1, 2, 3), 0);
            due("add", x.add(1, 2, 3), 4);
            due("add", x.add(1, 2, 3), 11);
            due("add", x.add(1, 2, 3), 19);
            due("add", x.add(1, 2, 3), FULL);
        });
        test("Promise 2: BAD when a is not 0 .. 6", () -> {
            for (int a : NO_POINTS) {
                PathSuite x = new PathSuite();
                due("add(" + a + ", 0, 0)", x.add(a, 0, 0), BAD);
                due("add(" + a + ", 6, 0)", x.add(a, 6, 0), BAD);
                due("arcs()", x.arcs(), 0);
            }
        });
        test("Promise 2: BAD when b is not 0 .. 6", () -> {
            for (int b : NO_POINTS) {
                PathSuite x = new PathSuite();
                due("add(0, " + b + ", 0)", x.add(0, b, 0), BAD);
                due("add(6, " + b + ", 0)", x.add(6, b, 0), BAD);
                due("arcs()", x.arcs(), 0);
            }
        });
        test("Promise 2: BAD when weight is not -20 .. 20", () -> {
            for (int weight : NO_WEIGHTS) {
                PathSuite x = new PathSuite();
                due("add(0, 1, " + weight + ")", x.add(0, 1, weight), BAD);
                due("arcs()", x.arcs(), 0);
            }
        });
        test("Promise 2: BAD when everything is wrong", () -> {
            PathSuite x = new PathSuite();
            due("add(-1, 7, 21)", x.add(-1, 7, 21), BAD);
            due("add(7, -1, -21)", x.add(7, -1, -21), BAD);
            due("arcs()", x.arcs(), 0);
        });
        test("Promise 2: not FULL with nineteen", () -> {
            PathSuite x = full(0, 1, 2);
            due("remove(7)", x.remove(7), 2);
            due("add(1, 2, 2)", x.add(1, 2, 2), 7);
        });
        test("Promise 2: FULL when there are twenty", () -> {
            PathSuite x = full(0, 1, 2);
            due("add(0, 1, 2)", x.add(0, 1, 2), FULL);
            due("add(6, 6, -20)", x.add(6, 6, -20), FULL);
            due("arcs()", x.arcs(), ALL_ARCS);
            due("least(0, 6, 6)", x.least(0, 6, 6), 0);
        });
        test("Promise 2: BAD before FULL, a", () -> {
            PathSuite x = full(0, 1, 2);
            for (int a : NO_POINTS) {
                due("add(" + a + ", 0, 0)", x.add(a, 0, 0), BAD);
            }
        });
        test("Promise 2: BAD before FULL, b", () -> {
            PathSuite x = full(0, 1, 2);
            for (int b : NO_POINTS) {
                due("add(0, " + b + ", 0)", x.add(0, b, 0), BAD);
            }
        });
        test("Promise 2: BAD before FULL, weight", () -> {
            PathSuite x = full(0, 1, 2);
            for (int weight : NO_WEIGHTS) {
                due("add(0, 0, " + weight + ")", x.add(0, 0, weight), BAD);
            }
        });
        test("Promise 2: a number used again has nothing of the arc before", () -> {
            PathSuite x = network(0, 1, -20);
            due("remove(0)", x.remove(0), -20);
            due("add(5, 6, 20)", x.add(5, 6, 20), 0);
            dueByEachEngine(x, 0, 1, NONE);
            dueByEachEngine(x, 5, 6, 20);
            due("remove(0)", x.remove(0), 20);
        });
    }

    private static void remove() {
        test("Promise 3: answers its weight, -20, 0 and 20 too", () -> {
            PathSuite x = network(0, 1, -20, 1, 2, 0, 2, 3, 20);
            due("remove(1)", x.remove(1), 0);
            due("remove(2)", x.remove(2), 20);
            due("remove(0)", x.remove(0), -20);
            due("arcs()", x.arcs(), 0);
        });
        test("Promise 3: the weight that change gave", () -> {
            PathSuite x = network(0, 1, -20);
            due("change(0, 13)", x.change(0, 13), -20);
            due("remove(0)", x.remove(0), 13);
        });
        test("Promise 3: takes arc k away, and no other", () -> {
            for (int k = 0; k < ARCS; k++) {
                PathSuite x = full(0, 1, 2);
                due("remove(" + k + ")", x.remove(k), 2);
                due("arcs()", x.arcs(), ALL_ARCS - bits(k));
                due("on(0, 1)", x.on(0, 1), ALL_ARCS - bits(k));
                due("around(" + k + ")", x.around(k), BAD);
            }
        });
        test("Promise 3: takes it from every answer", () -> {
            PathSuite x = network(0, 0, -1);
            due("remove(0)", x.remove(0), -1);
            dueByEachEngine(x, 0, 0, 0);
            due("calm()", x.calm(), true);
            due("low(0)", x.low(0), 0);
            dueMean(x, NONE, NONE);
            due("onLeastRing()", x.onLeastRing(), 0);
        });
        test("Promise 3: BAD when there is none, never added", () -> {
            PathSuite x = network(0, 1, 2, 1, 2, 3);
            for (int k = 2; k < ARCS; k++) {
                due("remove(" + k + ")", x.remove(k), BAD);
            }
            due("arcs()", x.arcs(), bits(0, 1));
        });
        test("Promise 3: BAD when there is none, taken away before", () -> {
            PathSuite x = network(0, 1, 2, 1, 2, 3);
            due("remove(0)", x.remove(0), 2);
            due("remove(0)", x.remove(0), BAD);
            due("remove(0)", x.remove(0), BAD);
            due("arcs()", x.arcs(), bits(1));
        });
        test("Promise 3: BAD when there is none, no number of an arc", () -> {
            PathSuite x = full(0, 1, 2);
            for (int k : NO_ARCS) {
                due("remove(" + k + ")", x.remove(k), BAD);
            }
            due("arcs()", x.arcs(), ALL_ARCS);
        });
    }

    private static void change() {
        test("Promise 4: to -20 and to 20", () -> {
            PathSuite x = network(3, 4, 0);
            due("change(0, -20)", x.change(0, -20), 0);
            dueByEachEngine(x, 3, 4, -20);
            due("change(0, 20)", x.change(0, 20), -20);
            dueByEachEngine(x, 3, 4, 20);
        });
        test("Promise 4: to the weight that it has", () -> {
            PathSuite x = network(3, 4, 6);
            due("change(0, 6)", x.change(0, 6), 6);
            due("change(0, 6)", x.change(0, 6), 6);
        });
        test("Promise 4: arc k and no other, arc 19 too", () -> {
            PathSuite x = full(0, 1, 2);
            due("change(19, 1)", x.change(19, 1), 2);
            due("on(0, 1)", x.on(0, 1), bits(19));
            due("change(0, 0)", x.change(0, 0), 2);
            due("on(0, 1)", x.on(0, 1), bits(0));
            for (int k = 1; k < 19; k++) {
                due("remove(" + k + ")", x.remove(k), 2);
            }
        });
        test("Promise 4: BAD, changing nothing, when there is none", () -> {
            PathSuite x = network(0, 1, 2, 1, 2, 3);
            x.remove(0);
            due("change(0, 5)", x.change(0, 5), BAD);
            due("change(2, 5)", x.change(2, 5), BAD);
            due("change(19, 5)", x.change(19, 5), BAD);
            due("arcs()", x.arcs(), bits(1));
            due("remove(1)", x.remove(1), 3);
            due("add(4, 4, 1)", x.add(4, 4, 1), 0);
        });
        test("Promise 4: BAD, changing nothing, when k is no number of an arc", () -> {
            PathSuite x = full(0, 1, 2);
            for (int k : NO_ARCS) {
                due("change(" + k + ", 5)", x.change(k, 5), BAD);
            }
            for (int k = 0; k < ARCS; k++) {
                due("remove(" + k + ")", x.remove(k), 2);
            }
        });
        test("Promise 4: BAD, changing nothing, when weight is not -20 .. 20", () -> {
            for (int weight : NO_WEIGHTS) {
                PathSuite x = network(0, 1, 2);
                due("change(0, " + weight + ")", x.change(0, weight), BAD);
                dueByEachEngine(x, 0, 1, 2);
                due("remove(0)", x.remove(0), 2);
            }
        });
        test("Promise 4: BAD when both are wrong", () -> {
            PathSuite x = network(0, 1, 2);
            due("change(1, 21)", x.change(1, 21), BAD);
            due("change(-1, -21)", x.change(-1, -21), BAD);
            due("remove(0)", x.remove(0), 2);
        });
    }

    private static void arcs() {
        test("Promise 5: 0 when there are none", () -> {
            PathSuite x = network(0, 1, 2);
            x.remove(0);
            due("arcs()", x.arcs(), 0);
        });
        test("Promise 5: bit k for arc k, each one alone", () -> {
            for (int k = 0; k < ARCS; k++) {
                PathSuite x = full(0, 1, 2);
                for (int other = 0; other < ARCS; other++) {
                    if (other != k) {
                        due("remove(" + other + ")", x.remove(other), 2);
                    }
                }
                due("arcs()", x.arcs(), bits(k));
            }
        });
        test("Promise 5: all twenty", () -> due("arcs()", full(0, 1, 2).arcs(), ALL_ARCS));
    }

    private static PathSuite someArcs() {
        PathSuite x = network(0, 1, 4, 1, 2, -3, 2, 0, 5, 5, 5, -2, 5, 6, 20, 3, 4, -20);
        x.remove(1);
        return x;
    }

    private static void refused() {
        for (int p : NO_POINTS) {
            changesNothing("add from " + p, false, x -> due("add", x.add(p, 0, 1), BAD));
            changesNothing("add to " + p, false, x -> due("add", x.add(0, p, 1), BAD));
            changesNothing("least from " + p, false, x -> dueByEachEngine(x, p, 0, BAD));
            changesNothing("least to " + p, false, x -> dueByEachEngine(x, 0, p, BAD));
            changesNothing("fewest from " + p, false, x -> due("fewest", x.fewest(p, 0), BAD));
            changesNothing("fewest to " + p, false, x -> due("fewest", x.fewest(0, p), BAD));
            changesNothing("on from " + p, false, x -> due("on", x.on(p, 0), BAD));
            changesNothing("on to " + p, false, x -> due("on", x.on(0, p), BAD));
            changesNothing("reached from " + p, false, x -> due("reached", x.reached(p), BAD));
            changesNothing("low from " + p, false, x -> due("low", x.low(p), BAD));
        }
        for (int weight : NO_WEIGHTS) {
            changesNothing("add with " + weight, false, x -> due("add", x.add(0, 1, weight), BAD));
            changesNothing("change to " + weight, false, x -> due("change", x.change(0, weight), BAD));
        }
        for (int k : NO_ARCS) {
            changesNothing("remove " + k, true, x -> due("remove", x.remove(k), BAD));
            changesNothing("change " + k, true, x -> due("change", x.change(k, 7), BAD));
            changesNothing("around " + k, true, x -> due("around", x.around(k), BAD));
        }
        for (int k : new int[] {1, 6, 19}) {
            changesNothing("remove " + k, false, x -> due("remove", x.remove(k), BAD));
            changesNothing("change " + k, false, x -> due("change", x.change(k, 7), BAD));
            changesNothing("around " + k, false, x -> due("around", x.around(k), BAD));
        }
        for (int engine : NO_WALK_ENGINES) {
            changesNothing("least by engine " + engine, false, x -> due("least", x.least(engine, 0, 1), BAD));
            changesNothing("agree of " + engine, false, x -> due("agree", x.agree(engine, 0), false));
            changesNothing("agree with " + engine, false, x -> due("agree", x.agree(4, engine), false));
        }
        for (int engine : NO_MEAN_ENGINES) {
            changesNothing("meanTop by engine " + engine, false, x -> due("meanTop", x.meanTop(engine), BAD));
            changesNothing("meanBottom by engine " + engine, false, x -> due("meanBottom", x.meanBottom(engine), BAD));
        }
        changesNothing("add to a full object", true, x -> due("add", x.add(3, 3, -20), FULL));
        changesNothing("NONE", false, x -> {
            dueByEachEngine(x, 0, 6, NONE);
            due("fewest", x.fewest(0, 6), NONE);
            due("around", x.around(5), NONE);
        });
        changesNothing("LOW and calm's false", false, x -> {
            dueByEachEngine(x, 5, 6, LOW);
            due("fewest", x.fewest(5, 6), LOW);
            due("around", x.around(3), LOW);
            due("calm", x.calm(), false);
        });
        changesNothing("NONE for the means", true, x -> dueMean(x, NONE, NONE));
        test("Promise 18: a refused call changes nothing, NONE for widest", () -> {
            PathSuite x = network(2, 2, 5, 0, 0, -1, 0, 1, 3);
            due("widest", x.widest(), NONE);
            dueAsIn(x, network(2, 2, 5, 0, 0, -1, 0, 1, 3));
        });
    }

    // The object that was refused something answers from then on as one that was not asked.
    private static void changesNothing(String what, boolean isFull, Consumer<PathSuite> call) {
        test("Promise 18: a refused call changes nothing, " + what, () -> {
            PathSuite x = isFull ? full(0, 1, -2) : someArcs();
            PathSuite y = isFull ? full(0, 1, -2) : someArcs();
            call.accept(x);
            call.accept(x);
            dueAsIn(x, y);
        });
    }

    private static void dueAsIn(PathSuite x, PathSuite y) {
        due("arcs()", x.arcs(), y.arcs());
        for (int s = 0; s < POINTS; s++) {
            for (int t = 0; t < POINTS; t++) {
                due("least(4, " + s + ", " + t + ")", x.least(4, s, t), y.least(4, s, t));
                due("on(" + s + ", " + t + ")", x.on(s, t), y.on(s, t));
            }
        }
        due("meanTop(1)", x.meanTop(1), y.meanTop(1));
        due("meanBottom(1)", x.meanBottom(1), y.meanBottom(1));
        due("onLeastRing()", x.onLeastRing(), y.onLeastRing());
        for (int k = 0; k < ARCS; k++) {
            due("around(" + k + ")", x.around(k), y.around(k));
        }
        due("add(6, 6, 1)", x.add(6, 6, 1), y.add(6, 6, 1));
        for (int k = 0; k < ARCS; k++) {
            due("remove(" + k + ")", x.remove(k), y.remove(k));
        }
        due("add(6, 6, 1)", x.add(6, 6, 1), y.add(6, 6, 1));
    }

    private static void calls() {
        test("At most 512 calls: the last ones are answered as the first", () -> {
            PathSuite x = new PathSuite();
            for (int turn = 0; turn < 64; turn++) {
                int engine = turn % WALK_ENGINES;
                due("add(0, 6, 20)", x.add(0, 6, 20), 0);
                due("add(6, 0, -20)", x.add(6, 0, -20), 1);
                due("least(" + engine + ", 0, 6)", x.least(engine, 0, 6), 20);
                due("change(0, 19)", x.change(0, 19), 20);
                due("least(" + engine + ", 0, 6)", x.least(engine, 0, 6), LOW);
                due("remove(1)", x.remove(1), -20);
                due("least(" + engine + ", 0, 6)", x.least(engine, 0, 6), 19);
                due("remove(0)", x.remove(0), 19);
            }
        });
    }
}

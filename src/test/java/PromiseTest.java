/** Each promise of the document by hand, with ordinary inputs first. The sentences on edges have cases of their own. */
public final class PromiseTest extends Cases {
    public static void main(String[] args) {
        test("Promise 1: a new object", PromiseTest::newObject);
        test("Promise 2: add", PromiseTest::add);
        test("Promise 2: add, up to twenty", PromiseTest::addFull);
        test("Promise 3: remove", PromiseTest::remove);
        test("Promise 4: change", PromiseTest::change);
        test("Promise 5: arcs", PromiseTest::arcs);
        test("Promise 6: least", PromiseTest::least);
        test("Promise 6: least, LOW", PromiseTest::leastLow);
        test("Promise 6: least, arcs in a slow order", PromiseTest::leastAgainstTheOrder);
        test("Promise 7: agree", PromiseTest::agree);
        test("Promise 8: fewest", PromiseTest::fewest);
        test("Promise 9: on", PromiseTest::on);
        test("Promise 10: reached", PromiseTest::reached);
        test("Promise 11: low", PromiseTest::low);
        test("Promise 12: calm", PromiseTest::calm);
        test("Promises 13 and 14: meanTop and meanBottom", PromiseTest::means);
        test("Promise 15: onLeastRing", PromiseTest::onLeastRing);
        test("Promise 16: around", PromiseTest::around);
        test("Promise 17: widest", PromiseTest::widest);
        test("Promise 18: refused calls change nothing", PromiseTest::refusedCallsChangeNothing);
        end();
    }

    // Promise 1
    private static void newObject() {
        PathSuite x = new PathSuite();
        due("new: arcs", x.arcs(), 0);
        for (int k = 0; k < 20; k++) {
            due("new: remove", x.remove(k), BAD);
        }
        for (int s = 0; s < 7; s++) {
            for (int t = 0; t < 7; t++) {
                dueByEachEngine(x, s, t, s == t ? 0 : NONE);
            }
        }
        PathSuite other = new PathSuite();
        other.add(0, 1, 1);
        due("new: two objects share nothing", x.arcs(), 0);
    }

    // Promise 2
    private static void add() {
        PathSuite x = new PathSuite();
        due("add 0", x.add(0, 6, -20), 0);
        due("add 1", x.add(6, 0, 20), 1);
        due("add 2, to the same point", x.add(3, 3, 0), 2);
        due("add 3, beside another", x.add(0, 6, -20), 3);
        due("add: weight", x.least(0, 0, 6), -20);
        due("add: way", x.least(0, 6, 3), NONE);
        x.remove(1);
        due("add takes the least number", x.add(6, 0, 20), 1);
        x.remove(0);
        x.remove(2);
        due("add takes the least of two", x.add(1, 2, 7), 0);
        due("add takes the other then", x.add(2, 1, 8), 2);
        due("add goes on behind", x.add(2, 1, 8), 4);
        due("add: a number used again has the new weight", x.remove(0), 7);
        for (int p : NO_POINTS) {
            due("add from " + p, x.add(p, 0, 0), BAD);
            due("add to " + p, x.add(0, p, 0), BAD);
        }
        for (int w : NO_WEIGHTS) {
            due("add with " + w, x.add(0, 0, w), BAD);
        }
    }

    private static void addFull() {
        PathSuite x = new PathSuite();
        for (int k = 0; k < 20; k++) {
            due("add up to twenty", x.add(k % 7, (k + 1) % 7, k - 10), k);
        }
        due("add a twenty-first", x.add(0, 0, 0), FULL);
        due("add, BAD before FULL, from", x.add(7, 0, 0), BAD);
        due("add, BAD before FULL, to", x.add(0, -1, 0), BAD);
        due("add, BAD before FULL, weight", x.add(0, 0, 21), BAD);
        due("FULL changes nothing", x.arcs(), (1 << 20) - 1);
        due("remove the last", x.remove(19), 9);
        due("add after FULL", x.add(0, 0, 5), 19);
        due("FULL again", x.add(0, 0, 5), FULL);
    }

    // Promise 3
    private static void remove() {
        PathSuite x = network(0, 1, -20, 1, 2, 20, 2, 3, 0);
        due("remove 1", x.remove(1), 20);
        due("remove 1 again", x.remove(1), BAD);
        due("arcs left", x.arcs(), bits(0, 2));
        due("no way is left", x.least(0, 0, 2), NONE);
        due("the others stay", x.least(0, 0, 1), -20);
        due("remove 0", x.remove(0), -20);
        due("remove 2", x.remove(2), 0);
        due("remove 3", x.remove(3), BAD);
        for (int k : NO_ARCS) {
            due("remove " + k, x.remove(k), BAD);
        }
    }

    // Promise 4
    private static void change() {
        PathSuite x = network(0, 1, 4, 1, 2, 5);
        due("change", x.change(0, -20), 4);
        due("change is felt", x.least(0, 0, 2), -15);
        due("change again", x.change(0, 20), -20);
        due("change to the same", x.change(0, 20), 20);
        due("the other stays", x.change(1, 0), 5);
        for (int w : NO_WEIGHTS) {
            due("change to " + w, x.change(0, w), BAD);
        }
        due("BAD changed nothing", x.least(0, 0, 2), 20);
        for (int k : NO_ARCS) {
            due("change " + k, x.change(k, 1), BAD);
        }
        due("change one that never was", x.change(2, 1), BAD);
        due("remove", x.remove(0), 20);
        due("change one taken away", x.change(0, 1), BAD);
        due("still away", x.arcs(), bits(1));
    }

    // Promise 5
    private static void arcs() {
        PathSuite x = network(0, 1, 1, 0, 1, 1, 4, 4, -1);
        due("arcs, a set", x.arcs(), bits(0, 1, 2));
        x.remove(1);
        due("arcs without 1", x.arcs(), bits(0, 2));
        x.change(2, 5);
        due("arcs after change", x.arcs(), bits(0, 2));
        x.remove(0);
        x.remove(2);
        due("arcs, none", x.arcs(), 0);
    }

    // Promise 6
    private static void least() {
        PathSuite x = network(0, 1, 10, 0, 1, 9, 0, 2, 20, 2, 1, -20, 1, 3, 3, 3, 1, -3, 6, 0, -1);
        dueByEachEngine(x, 0, 1, 0);
        dueByEachEngine(x, 0, 3, 3);
        dueByEachEngine(x, 6, 3, 2);
        dueByEachEngine(x, 3, 3, 0);
        dueByEachEngine(x, 0, 0, 0);
        dueByEachEngine(x, 1, 0, NONE);
        dueByEachEngine(x, 0, 6, NONE);
        dueByEachEngine(x, 5, 0, NONE);
        for (int p : NO_POINTS) {
            dueByEachEngine(x, p, 0, BAD);
            dueByEachEngine(x, 0, p, BAD);
        }
        for (int engine : NO_WALK_ENGINES) {
            due("least by engine " + engine, x.least(engine, 0, 1), BAD);
        }
        PathSuite down = network(6, 5, -20, 5, 4, -20, 4, 3, -20, 3, 2, -20, 2, 1, -20, 1, 0, -20);
        dueByEachEngine(down, 6, 0, -120);
        PathSuite up = network(0, 1, 20, 1, 2, 20, 2, 3, 20, 3, 4, 20, 4, 5, 20, 5, 6, 20);
        dueByEachEngine(up, 0, 6, 120);
    }

    private static void leastLow() {
        // The ring 2, 3 is below 0 by one only, behind a heavy way and before another; 6 stands
        // beside it.
        PathSuite x = network(0, 1, 20, 1, 2, 20, 2, 3, 10, 3, 2, -11, 3, 4, 20, 4, 5, 20,
                0, 5, -20, 0, 6, -5, 6, 5, -20);
        dueByEachEngine(x, 0, 5, LOW);
        dueByEachEngine(x, 0, 0, 0);
        dueByEachEngine(x, 0, 1, 20);
        dueByEachEngine(x, 0, 2, LOW);
        dueByEachEngine(x, 2, 2, LOW);
        dueByEachEngine(x, 3, 4, LOW);
        dueByEachEngine(x, 4, 5, 20);
        dueByEachEngine(x, 0, 6, -5);
        dueByEachEngine(x, 6, 5, -20);
        dueByEachEngine(x, 5, 0, NONE);
        x.change(3, -10);
        dueByEachEngine(x, 0, 5, -25);
        dueByEachEngine(x, 2, 2, 0);
        PathSuite longest = network(0, 1, 3, 1, 2, -3, 2, 3, 4, 3, 4, -4, 4, 5, 5, 5, 6, -5, 6, 0, -1);
        for (int s = 0; s < 7; s++) {
            for (int t = 0; t < 7; t++) {
                dueByEachEngine(longest, s, t, LOW);
            }
        }
        PathSuite fiveAround = network(0, 2, 5, 2, 3, 1, 3, 4, 1, 4, 5, -5, 5, 6, 1, 6, 2, 1, 6, 1, 5);
        dueByEachEngine(fiveAround, 0, 1, LOW);
        dueByEachEngine(fiveAround, 1, 1, 0);
        PathSuite loop = network(3, 3, -1, 3, 4, 20, 2, 3, 20);
        dueByEachEngine(loop, 3, 3, LOW);
        dueByEachEngine(loop, 2, 4, LOW);
        dueByEachEngine(loop, 4, 4, 0);
    }

    // The arcs stand in the order in which a round over them brings a walk on by one arc only.
    private static void leastAgainstTheOrder() {
        PathSuite x = network(5, 6, -1, 4, 5, -1, 3, 4, -1, 2, 3, -1, 1, 2, -1, 0, 1, -1);
        dueByEachEngine(x, 0, 6, -6);
        dueByEachEngine(x, 0, 5, -5);
        PathSuite low = network(4, 5, 0, 3, 4, 0, 2, 3, 0, 1, 2, 0, 0, 1, 20, 0, 0, -1, 6, 0, 20,
                6, 1, -20, 6, 2, -20, 6, 3, -20, 6, 4, -20, 6, 5, -20);
        for (int t = 0; t < 6; t++) {
            dueByEachEngine(low, 6, t, LOW);
        }
        dueByEachEngine(low, 6, 6, 0);
        dueByEachEngine(low, 1, 5, 0);
    }

    // Promise 7
    private static void agree() {
        PathSuite[] networks = {
            new PathSuite(),
            network(0, 1, 4, 1, 2, -4, 2, 0, 0, 5, 6, 20),
            network(0, 1, 4, 1, 2, -4, 2, 0, -1, 2, 3, 20),
        };
        for (PathSuite x : networks) {
            for (int engine = 0; engine < 5; engine++) {
                for (int other = 0; other < 5; other++) {
                    due("agree(" + engine + ", " + other + ")", x.agree(engine, other), true);
                }
                for (int none : NO_WALK_ENGINES) {
                    due("agree(" + engine + ", " + none + ")", x.agree(engine, none), false);
                    due("agree(" + none + ", " + engine + ")", x.agree(none, engine), false);
                    due("agree(" + none + ", " + none + ")", x.agree(none, none), false);
                }
            }
        }
    }

    // Promise 8
    private static void fewest() {
        PathSuite x = network(0, 1, 2, 1, 2, 2, 0, 2, 4, 2, 3, -5, 0, 3, 0, 3, 2, 5, 4, 4, -1, 3, 4, 1);
        due("fewest, of two least walks", x.fewest(0, 2), 1);
        due("fewest, the light walk is longer", x.fewest(0, 3), 2);
        due("fewest to the same point, a ring of 0", x.fewest(2, 2), 0);
        due("fewest, one arc", x.fewest(3, 2), 1);
        due("fewest LOW", x.fewest(0, 4), LOW);
        due("fewest LOW, at its ring", x.fewest(4, 4), LOW);
        due("fewest NONE", x.fewest(3, 0), NONE);
        PathSuite six = network(6, 5, -20, 5, 4, -20, 4, 3, -20, 3, 2, -20, 2, 1, -20, 1, 0, -20, 6, 0, 20);
        due("fewest, six", six.fewest(6, 0), 6);
        for (int p : NO_POINTS) {
            due("fewest from " + p, x.fewest(p, 0), BAD);
            due("fewest to " + p, x.fewest(0, p), BAD);
        }
    }

    // Promise 9
    private static void on() {
        PathSuite x = network(0, 1, 2, 1, 2, 2, 0, 2, 4, 0, 2, 5, 1, 1, 0, 2, 3, 3, 3, 2, -3, 4, 5, -9, 2, 4, 1,
                6, 6, -1, 2, 6, 0);
        due("on, both walks, a ring at a point and one beyond", x.on(0, 2), bits(0, 1, 2, 4, 5, 6));
        due("on, behind", x.on(0, 5), bits(0, 1, 2, 4, 5, 6, 7, 8));
        due("on, the empty walk alone", x.on(0, 0), 0);
        due("on, a ring of 0 from the point", x.on(3, 3), bits(5, 6));
        due("on NONE", x.on(5, 0), 0);
        due("on LOW", x.on(0, 6), 0);
        due("on LOW, at its ring", x.on(6, 6), 0);
        PathSuite last = new PathSuite();
        for (int k = 0; k < 20; k++) {
            last.add(0, 1, 20 - k);
        }
        due("on, arc 19", last.on(0, 1), 1 << 19);
        for (int p : NO_POINTS) {
            due("on from " + p, x.on(p, 0), BAD);
            due("on to " + p, x.on(0, p), BAD);
        }
    }

    // Promise 10
    private static void reached() {
        PathSuite x = network(0, 1, 20, 1, 2, -20, 2, 1, 5, 3, 0, 0, 5, 5, -1, 5, 6, 1);
        due("reached from 0", x.reached(0), bits(0, 1, 2));
        due("reached from 3", x.reached(3), bits(0, 1, 2, 3));
        due("reached from 2", x.reached(2), bits(1, 2));
        due("reached from 4", x.reached(4), bits(4));
        due("reached from 5, LOW too", x.reached(5), bits(5, 6));
        for (int p : NO_POINTS) {
            due("reached from " + p, x.reached(p), BAD);
        }
    }

    // Promise 11
    private static void low() {
        PathSuite x = network(0, 1, 20, 1, 2, -20, 2, 1, 19, 2, 3, 20, 0, 4, 1, 6, 5, 1);
        due("low from 0", x.low(0), bits(1, 2, 3));
        due("low from 1", x.low(1), bits(1, 2, 3));
        due("low from 3", x.low(3), 0);
        due("low from 6", x.low(6), 0);
        x.change(2, 20);
        due("low, a ring of 0", x.low(0), 0);
        for (int p : NO_POINTS) {
            due("low from " + p, x.low(p), BAD);
        }
    }

    // Promise 12
    private static void calm() {
        due("calm, no arc", new PathSuite().calm(), true);
        PathSuite x = network(5, 6, -20, 6, 4, 19, 4, 5, 1, 0, 1, -20);
        due("calm, a ring of 0", x.calm(), true);
        x.change(2, 0);
        due("calm, a ring of -1", x.calm(), false);
        x.remove(1);
        due("calm, weights below 0 without a ring", x.calm(), true);
        for (int p = 0; p < 7; p++) {
            due("calm, a loop", network(p, p, -1).calm(), false);
            due("calm, a loop of 0", network(p, p, 0).calm(), true);
        }
    }

    // Promises 13 and 14
    private static void means() {
        dueMean(new PathSuite(), NONE, NONE);
        dueMean(network(0, 1, -20, 1, 2, -20, 0, 2, -20), NONE, NONE);
        dueMean(network(0, 1, 3, 1, 0, 4), 7, 2);
        dueMean(network(0, 1, -3, 1, 0, -4), -7, 2);
        dueMean(network(0, 1, 3, 1, 0, -3), 0, 1);
        dueMean(network(0, 1, 3, 1, 0, 5), 4, 1);
        dueMean(network(0, 1, 1, 1, 2, 1, 2, 3, 1, 3, 0, 3), 3, 2);
        dueMean(network(0, 1, 1, 1, 2, 1, 2, 3, 0, 3, 4, 0, 4, 5, 0, 5, 0, 0), 1, 3);
        dueMean(network(0, 1, 20, 1, 2, 20, 2, 3, 20, 3, 4, 20, 4, 5, 20, 5, 6, 20, 6, 0, 19), 139, 7);
        dueMean(network(0, 1, -20, 1, 2, -20, 2, 3, -20, 3, 4, -20, 4, 5, -20, 5, 6, -20, 6, 0, -20), -20, 1);
        dueMean(network(6, 6, 20), 20, 1);
        dueMean(network(6, 6, 4, 0, 1, 1, 1, 0, 6, 5, 5, 5), 7, 2);
        dueMean(network(0, 1, -20, 1, 2, -1, 2, 1, -2), -3, 2);
        dueMean(network(4, 1, 8, 2, 5, -1, 6, 0, -6, 4, 4, 1, 5, 3, -7, 1, 6, 6, 3, 4, -8), 1, 1);
        PathSuite x = network(6, 6, 2);
        due("fewest before a mean", x.fewest(0, 0), 0);
        dueMean(x, 2, 1);
        for (int engine : NO_MEAN_ENGINES) {
            due("meanTop(" + engine + ")", x.meanTop(engine), BAD);
            due("meanBottom(" + engine + ")", x.meanBottom(engine), BAD);
            due("meanTop(" + engine + "), BAD before NONE", new PathSuite().meanTop(engine), BAD);
            due("meanBottom(" + engine + "), BAD before NONE", new PathSuite().meanBottom(engine), BAD);
        }
    }

    // Promise 15
    private static void onLeastRing() {
        due("onLeastRing, no arc", new PathSuite().onLeastRing(), 0);
        due("onLeastRing, no ring", network(0, 1, 1, 1, 2, 1).onLeastRing(), 0);
        PathSuite x = network(0, 1, 1, 1, 0, 2, 2, 3, 2, 3, 2, 1, 4, 4, 2, 1, 2, -20, 5, 6, 0, 6, 5, 3);
        due("onLeastRing, three rings of 3/2", x.onLeastRing(), bits(0, 1, 2, 3, 5, 6));
        x.change(4, 1);
        due("onLeastRing, one of 1", x.onLeastRing(), bits(4));
        PathSuite eight = network(0, 1, -1, 1, 0, -1, 1, 2, -1, 2, 1, -1, 2, 3, -20);
        due("onLeastRing, two with a common point", eight.onLeastRing(), bits(0, 1, 2));
        PathSuite zero = network(0, 1, 5, 1, 0, -5, 2, 2, 0, 3, 3, 1);
        due("onLeastRing, mean 0", zero.onLeastRing(), bits(0, 1, 2));
        PathSuite longest = network(0, 1, 1, 1, 2, 1, 2, 3, 1, 3, 4, 1, 4, 5, 1, 5, 6, 1, 6, 0, 2);
        due("onLeastRing, seven points", longest.onLeastRing(), 127);
    }

    // Promise 16
    private static void around() {
        PathSuite x = network(0, 1, 7, 1, 0, -2, 1, 0, -3, 1, 2, 4, 3, 3, 9, 4, 5, -1, 5, 4, 0, 3, 4, 1, 6, 6, 0);
        due("around 0", x.around(0), 4);
        due("around 1, the heavier of two", x.around(1), 5);
        due("around 2", x.around(2), 4);
        due("around 3 NONE", x.around(3), NONE);
        due("around 4, a loop", x.around(4), 9);
        due("around 5 LOW", x.around(5), LOW);
        due("around 7 NONE, although it comes to a ring below 0", x.around(7), NONE);
        due("around 8, a loop of 0", x.around(8), 0);
        due("around 9", x.around(9), BAD);
        for (int k : NO_ARCS) {
            due("around " + k, x.around(k), BAD);
        }
        x.remove(0);
        due("around one taken away", x.around(0), BAD);
        due("around 1 then", x.around(1), NONE);
        due("around, a loop beside one below 0", network(0, 0, -1, 0, 0, 20).around(1), LOW);
    }

    // Promise 17
    private static void widest() {
        due("widest, no arc", new PathSuite().widest(), NONE);
        due("widest, a loop alone", network(0, 0, 20).widest(), NONE);
        due("widest, LOW alone", network(0, 0, -1, 0, 1, 20).widest(), NONE);
        due("widest, below 0", network(0, 1, -20).widest(), -20);
        due("widest, the greater of two below 0", network(0, 1, -20, 2, 3, -7).widest(), -7);
        due("widest, 0", network(0, 1, -20, 2, 3, 0).widest(), 0);
        due("widest, the least of two arcs", network(0, 1, 20, 0, 1, 5).widest(), 5);
        due("widest, a sum", network(0, 1, 20, 1, 2, 20, 5, 6, 20).widest(), 40);
        due("widest beside LOW", network(0, 0, -1, 0, 1, 20, 2, 3, 4).widest(), 4);
    }

    // Promise 18
    private static void refusedCallsChangeNothing() {
        PathSuite x = network(0, 1, 4, 1, 2, -3, 2, 0, 5, 5, 5, -2);
        x.remove(1);
        x.add(8, 0, 0);
        x.add(0, 8, 0);
        x.add(0, 0, 99);
        x.remove(1);
        x.remove(-5);
        x.change(1, 3);
        x.change(0, 77);
        x.least(9, 0, 0);
        x.least(0, 9, 0);
        x.agree(0, 9);
        x.fewest(9, 0);
        x.on(0, 9);
        x.reached(9);
        x.low(9);
        x.meanTop(9);
        x.meanBottom(9);
        x.around(1);
        due("arcs as before", x.arcs(), bits(0, 2, 3));
        due("weight 0 as before", x.change(0, 4), 4);
        due("weight 2 as before", x.change(2, 5), 5);
        due("weight 3 as before", x.change(3, -2), -2);
        due("the least number as before", x.add(1, 2, -3), 1);
        dueByEachEngine(x, 0, 2, 1);
        due("questions change nothing", x.arcs(), bits(0, 1, 2, 3));
    }
}

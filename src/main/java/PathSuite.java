/**
 * Least ways in a network of seven points and at most twenty arcs with weights of both signs,
 * found in five ways, and the rings of least mean, found in two.
 */
public final class PathSuite {
    public static final int BAD = -1000;
    public static final int FULL = -2000;
    public static final int NONE = -3000;
    public static final int LOW = -4000;

    private static final int POINTS = 7;
    private static final int ARCS = 20;
    private static final int HEAVIEST = 20;
    private static final int WALK_ENGINES = 5;
    private static final int MEAN_ENGINES = 2;
    private static final int CELLS = 49;
    private static final int LEVEL_CELLS = 56;
    private static final int SETS = 128;
    private static final int SET_CELLS = 896;

    // While an engine works, these stand for "no walk" and "no bottom": no weight that an engine
    // meets on its way comes near them, so that the smaller of two cells is always the better one.
    private static final int FAR = 1000000;
    private static final int DEEP = -1000000;

    // A point is taken from the queue once for each time that its cell sinks. A cell that is not
    // DEEP is the weight of a walk of at most six arcs, -120 .. 120, so this is never reached.
    private static final int MOST_TURNS = 10000;

    private final boolean[] arcThere = new boolean[ARCS];
    private final int[] arcFrom = new int[ARCS];
    private final int[] arcTo = new int[ARCS];
    private final int[] arcWeight = new int[ARCS];

    // Cell s * POINTS + t is for the walks from s to t.
    private final int[] table = new int[CELLS];
    private final int[] otherTable = new int[CELLS];
    private final int[] squared = new int[CELLS];

    // Cell n * POINTS + p is for the walks of exactly n arcs to p.
    private final int[] levels = new int[LEVEL_CELLS];

    // Cell set * POINTS + p is for the walks to p that come to each point of the set once.
    private final int[] setCells = new int[SET_CELLS];
    private final boolean[] onRingBelowZero = new boolean[POINTS];

    private final int[] queue = new int[POINTS];
    private final boolean[] queued = new boolean[POINTS];
    private final int[] arcsUsed = new int[POINTS];
    private int queueStart;
    private int queueLength;

    // The least mean found so far; a bottom of 0 says that there is none.
    private int leastTop;
    private int leastBottom;

    public PathSuite() {
    }

    public int add(int a, int b, int weight) {
        if (!isPoint(a) || !isPoint(b) || !isWeight(weight)) {
            return BAD;
        }
        for (int k = 0; k < ARCS; k++) {
            if (!arcThere[k]) {
                arcThere[k] = true;
                arcFrom[k] = a;
                arcTo[k] = b;
                arcWeight[k] = weight;
                return k;
            }
        }
        return FULL;
    }

    public int remove(int k) {
        if (!isArc(k)) {
            return BAD;
        }
        arcThere[k] = false;
        return arcWeight[k];
    }

    public int change(int k, int weight) {
        if (!isArc(k) || !isWeight(weight)) {
            return BAD;
        }
        int before = arcWeight[k];
        arcWeight[k] = weight;
        return before;
    }

    public int arcs() {
        int set = 0;
        for (int k = 0; k < ARCS; k++) {
            if (arcThere[k]) {
                set |= 1 << k;
            }
        }
        return set;
    }

    public int least(int engine, int s, int t) {
        if (!isPoint(s) || !isPoint(t) || !isWalkEngine(engine)) {
            return BAD;
        }
        fill(engine, table);
        return table[s * POINTS + t];
    }

    public boolean agree(int engine, int other) {
        if (!isWalkEngine(engine) || !isWalkEngine(other)) {
            return false;
        }
        fill(engine, table);
        fill(other, otherTable);
        for (int cell = 0; cell < CELLS; cell++) {
            if (table[cell] != otherTable[cell]) {
                return false;
            }
        }
        return true;
    }

    public int fewest(int s, int t) {
        if (!isPoint(s) || !isPoint(t)) {
            return BAD;
        }
        fill(0, table);
        int whole = table[s * POINTS + t];
        if (!isFound(whole)) {
            return whole;
        }
        fillLevelsFrom(s);
        // Where no ring between s and t is below 0, some least walk comes to no point twice.
        for (int n = 0; n < POINTS; n++) {
            if (levels[n * POINTS + t] == whole) {
                return n;
            }
        }
        return NONE;
    }

    public int on(int s, int t) {
        if (!isPoint(s) || !isPoint(t)) {
            return BAD;
        }
        fill(0, table);
        int whole = table[s * POINTS + t];
        int set = 0;
        if (!isFound(whole)) {
            return set;
        }
        for (int k = 0; k < ARCS; k++) {
            if (arcThere[k]) {
                int before = table[s * POINTS + arcFrom[k]];
                int after = table[arcTo[k] * POINTS + t];
                if (isFound(before) && isFound(after) && before + arcWeight[k] + after == whole) {
                    set |= 1 << k;
                }
            }
        }
        return set;
    }

    public int reached(int s) {
        if (!isPoint(s)) {
            return BAD;
        }
        fill(0, table);
        int set = 0;
        for (int t = 0; t < POINTS; t++) {
            if (table[s * POINTS + t] != NONE) {
                set |= 1 << t;
            }
        }
        return set;
    }

    public int low(int s) {
        if (!isPoint(s)) {
            return BAD;
        }
        fill(0, table);
        int set = 0;
        for (int t = 0; t < POINTS; t++) {
            if (table[s * POINTS + t] == LOW) {
                set |= 1 << t;
            }
        }
        return set;
    }

    public boolean calm() {
        fill(0, table);
        // A ring below 0 makes the walks from each of its points to itself bottomless.
        for (int p = 0; p < POINTS; p++) {
            if (table[p * POINTS + p] == LOW) {
                return false;
            }
        }
        return true;
    }

    public int meanTop(int engine) {
        if (!isMeanEngine(engine)) {
            return BAD;
        }
        findLeastMean(engine);
        return leastBottom == 0 ? NONE : leastTop;
    }

    public int meanBottom(int engine) {
        if (!isMeanEngine(engine)) {
            return BAD;
        }
        findLeastMean(engine);
        return leastBottom == 0 ? NONE : leastBottom;
    }

    public int onLeastRing() {
        findLeastMean(0);
        int set = 0;
        if (leastBottom == 0) {
            return set;
        }
        for (int p = 0; p < POINTS; p++) {
            fillLevelsFrom(p);
            if (closesWithLeastMean(p)) {
                set |= 1 << p;
            }
        }
        return set;
    }

    public int around(int k) {
        if (!isArc(k)) {
            return BAD;
        }
        fill(0, table);
        int back = table[arcTo[k] * POINTS + arcFrom[k]];
        return isFound(back) ? arcWeight[k] + back : back;
    }

    public int widest() {
        fill(0, table);
        // NONE is below every weight of a walk, so the first one found takes its place.
        int greatest = NONE;
        for (int s = 0; s < POINTS; s++) {
            for (int t = 0; t < POINTS; t++) {
                int cell = table[s * POINTS + t];
                if (s != t && isFound(cell) && cell > greatest) {
                    greatest = cell;
                }
            }
        }
        return greatest;
    }

    private static boolean isPoint(int p) {
        return p >= 0 && p < POINTS;
    }

    private static boolean isWeight(int w) {
        return w >= -HEAVIEST && w <= HEAVIEST;
    }

    private static boolean isWalkEngine(int engine) {
        return engine >= 0 && engine < WALK_ENGINES;
    }

    private static boolean isMeanEngine(int engine) {
        return engine >= 0 && engine < MEAN_ENGINES;
    }

    private static boolean isFound(int answer) {
        return answer != NONE && answer != LOW;
    }

    private boolean isArc(int k) {
        return k >= 0 && k < ARCS && arcThere[k];
    }

    private static int joined(int first, int second) {
        if (first == FAR || second == FAR) {
            return FAR;
        }
        if (first == DEEP || second == DEEP) {
            return DEEP;
        }
        return first + second;
    }

    private void fill(int engine, int[] out) {
        switch (engine) {
            case 0:
                fillByRounds(out);
                break;
            case 1:
                fillByMiddlePoints(out);
                break;
            case 2:
                fillBySquaring(out);
                break;
            case 3:
                fillByQueue(out);
                break;
            default:
                fillBySets(out);
                break;
        }
        for (int cell = 0; cell < CELLS; cell++) {
            if (out[cell] == FAR) {
                out[cell] = NONE;
            } else if (out[cell] == DEEP) {
                out[cell] = LOW;
            }
        }
    }

    private static void startEmpty(int[] out) {
        for (int cell = 0; cell < CELLS; cell++) {
            out[cell] = FAR;
        }
        for (int p = 0; p < POINTS; p++) {
            out[p * POINTS + p] = 0;
        }
    }

    private void startWithArcs(int[] out) {
        startEmpty(out);
        for (int k = 0; k < ARCS; k++) {
            int cell = arcFrom[k] * POINTS + arcTo[k];
            if (arcThere[k] && arcWeight[k] < out[cell]) {
                out[cell] = arcWeight[k];
            }
        }
    }

    // Engine 0: every arc in rounds, from each point. Six rounds settle every walk that has a
    // least weight; a cell that still sinks later has none, and seven rounds more carry that on.
    private void fillByRounds(int[] out) {
        startEmpty(out);
        for (int s = 0; s < POINTS; s++) {
            for (int round = 1; round < 2 * POINTS; round++) {
                useEveryArc(out, s * POINTS, round >= POINTS);
            }
        }
    }

    private void useEveryArc(int[] out, int row, boolean settled) {
        for (int k = 0; k < ARCS; k++) {
            if (arcThere[k]) {
                int found = joined(out[row + arcFrom[k]], arcWeight[k]);
                if (found < out[row + arcTo[k]]) {
                    out[row + arcTo[k]] = settled ? DEEP : found;
                }
            }
        }
    }

    // Engine 1: walks may stop over at one more point each time. A point with a walk back to
    // itself below 0 may be gone around without end.
    private void fillByMiddlePoints(int[] out) {
        startWithArcs(out);
        for (int middle = 0; middle < POINTS; middle++) {
            int stay = out[middle * POINTS + middle] < 0 ? DEEP : 0;
            passThrough(out, middle, stay);
        }
    }

    private static void passThrough(int[] out, int middle, int stay) {
        for (int s = 0; s < POINTS; s++) {
            int arrived = joined(out[s * POINTS + middle], stay);
            for (int t = 0; t < POINTS; t++) {
                int found = joined(arrived, out[middle * POINTS + t]);
                if (found < out[s * POINTS + t]) {
                    out[s * POINTS + t] = found;
                }
            }
        }
    }

    // Engine 2: the table joined with itself doubles the arcs a walk may have. Three times make
    // eight, enough for every ring; two more carry DEEP to those before and behind a ring.
    private void fillBySquaring(int[] out) {
        startWithArcs(out);
        for (int time = 0; time < 5; time++) {
            joinWithItself(out);
            for (int p = 0; p < POINTS; p++) {
                if (out[p * POINTS + p] < 0) {
                    out[p * POINTS + p] = DEEP;
                }
            }
        }
    }

    private void joinWithItself(int[] out) {
        for (int s = 0; s < POINTS; s++) {
            for (int t = 0; t < POINTS; t++) {
                int smallest = FAR;
                for (int middle = 0; middle < POINTS; middle++) {
                    int found = joined(out[s * POINTS + middle], out[middle * POINTS + t]);
                    if (found < smallest) {
                        smallest = found;
                    }
                }
                squared[s * POINTS + t] = smallest;
            }
        }
        for (int cell = 0; cell < CELLS; cell++) {
            out[cell] = squared[cell];
        }
    }

    // Engine 3: only points whose cell has sunk are looked at again, in the order of a queue.
    private void fillByQueue(int[] out) {
        startEmpty(out);
        for (int s = 0; s < POINTS; s++) {
            queueStart = 0;
            queueLength = 0;
            arcsUsed[s] = 0;
            enqueue(s);
            for (int turn = 0; turn < MOST_TURNS && queueLength > 0; turn++) {
                int p = dequeue();
                leave(out, s * POINTS, p);
            }
        }
    }

    // A walk of seven arcs comes to some point twice, and the second time its cell had sunk: the
    // ring between is below 0, and the walk's end has no least weight.
    private void leave(int[] out, int row, int p) {
        for (int k = 0; k < ARCS; k++) {
            if (arcThere[k] && arcFrom[k] == p) {
                int next = arcTo[k];
                int found = joined(out[row + p], arcWeight[k]);
                if (found < out[row + next]) {
                    arcsUsed[next] = arcsUsed[p] + 1;
                    out[row + next] = arcsUsed[next] < POINTS ? found : DEEP;
                    enqueue(next);
                }
            }
        }
    }

    private void enqueue(int p) {
        if (!queued[p]) {
            queued[p] = true;
            queue[(queueStart + queueLength) % POINTS] = p;
            queueLength++;
        }
    }

    private int dequeue() {
        int p = queue[queueStart];
        queued[p] = false;
        queueStart = (queueStart + 1) % POINTS;
        queueLength--;
        return p;
    }

    // Engine 4: walks that come to no point twice, by the set of their points. Where there is a
    // least weight, one of these has it; the rings below 0 show where there is none.
    private void fillBySets(int[] out) {
        for (int s = 0; s < POINTS; s++) {
            fillSetsFrom(s);
            for (int t = 0; t < POINTS; t++) {
                out[s * POINTS + t] = smallestOfSets(t);
            }
            onRingBelowZero[s] = closesBelowZero(out, s);
        }
        for (int p = 0; p < POINTS; p++) {
            if (onRingBelowZero[p]) {
                passThrough(out, p, DEEP);
            }
        }
    }

    private void fillSetsFrom(int s) {
        for (int cell = 0; cell < SET_CELLS; cell++) {
            setCells[cell] = FAR;
        }
        setCells[(1 << s) * POINTS + s] = 0;
        for (int set = 1; set < SETS; set++) {
            growSet(set);
        }
    }

    private void growSet(int set) {
        for (int k = 0; k < ARCS; k++) {
            int grown = set | 1 << arcTo[k];
            if (arcThere[k] && grown != set) {
                int shorter = setCells[set * POINTS + arcFrom[k]];
                int cell = grown * POINTS + arcTo[k];
                if (shorter != FAR && shorter + arcWeight[k] < setCells[cell]) {
                    setCells[cell] = shorter + arcWeight[k];
                }
            }
        }
    }

    private int smallestOfSets(int t) {
        int smallest = FAR;
        for (int set = 1; set < SETS; set++) {
            if (setCells[set * POINTS + t] < smallest) {
                smallest = setCells[set * POINTS + t];
            }
        }
        return smallest;
    }

    private boolean closesBelowZero(int[] out, int s) {
        for (int k = 0; k < ARCS; k++) {
            if (arcThere[k] && arcTo[k] == s) {
                int ring = joined(out[s * POINTS + arcFrom[k]], arcWeight[k]);
                if (ring < 0) {
                    return true;
                }
            }
        }
        return false;
    }

    private void fillLevelsFrom(int s) {
        for (int p = 0; p < POINTS; p++) {
            levels[p] = FAR;
        }
        levels[s] = 0;
        fillHigherLevels();
    }

    private void fillLevelsFromAnywhere() {
        for (int p = 0; p < POINTS; p++) {
            levels[p] = 0;
        }
        fillHigherLevels();
    }

    private void fillHigherLevels() {
        for (int cell = POINTS; cell < LEVEL_CELLS; cell++) {
            levels[cell] = FAR;
        }
        for (int n = 1; n <= POINTS; n++) {
            for (int k = 0; k < ARCS; k++) {
                if (arcThere[k]) {
                    int shorter = levels[(n - 1) * POINTS + arcFrom[k]];
                    int cell = n * POINTS + arcTo[k];
                    if (shorter != FAR && shorter + arcWeight[k] < levels[cell]) {
                        levels[cell] = shorter + arcWeight[k];
                    }
                }
            }
        }
    }

    private void findLeastMean(int engine) {
        leastTop = 0;
        leastBottom = 0;
        if (engine == 0) {
            findMeanByLevels();
        } else {
            findMeanByClosedWalks();
        }
        // A bottom is at most seven, and so is every divisor that it shares with its top.
        for (int divisor = POINTS; divisor > 1; divisor--) {
            if (leastTop % divisor == 0 && leastBottom % divisor == 0) {
                leastTop /= divisor;
                leastBottom /= divisor;
            }
        }
    }

    // Mean engine 0, Karp's theorem: the least mean is the least, over the points that walks of
    // seven arcs come to, of the greatest mean by which such a walk outgrows a shorter one.
    private void findMeanByLevels() {
        fillLevelsFromAnywhere();
        for (int p = 0; p < POINTS; p++) {
            int last = levels[POINTS * POINTS + p];
            if (last != FAR) {
                offerGreatestGrowth(p, last);
            }
        }
    }

    // The end of a walk is a walk too: where there is one of seven arcs, no shorter one is missing.
    private void offerGreatestGrowth(int p, int last) {
        int top = last - levels[p];
        int bottom = POINTS;
        for (int n = 1; n < POINTS; n++) {
            int growth = last - levels[n * POINTS + p];
            if (growth * bottom > top * (POINTS - n)) {
                top = growth;
                bottom = POINTS - n;
            }
        }
        offerMean(top, bottom);
    }

    // Mean engine 1: a closed walk falls apart into rings, so none has a mean below the least one
    // of a ring, and each ring is a closed walk of at most seven arcs.
    private void findMeanByClosedWalks() {
        for (int p = 0; p < POINTS; p++) {
            fillLevelsFrom(p);
            for (int n = 1; n <= POINTS; n++) {
                int closed = levels[n * POINTS + p];
                if (closed != FAR) {
                    offerMean(closed, n);
                }
            }
        }
    }

    private void offerMean(int top, int bottom) {
        if (leastBottom == 0 || top * leastBottom < leastTop * bottom) {
            leastTop = top;
            leastBottom = bottom;
        }
    }

    // A closed walk of the least mean falls apart into rings of that mean, one of them through p.
    private boolean closesWithLeastMean(int p) {
        for (int n = 1; n <= POINTS; n++) {
            int closed = levels[n * POINTS + p];
            if (closed != FAR && closed * leastBottom == leastTop * n) {
                return true;
            }
        }
        return false;
    }
}

import java.util.ArrayList;
import java.util.HashSet;
import java.util.List;
import java.util.Set;

/** The document's terms taken at their word: every ring and every short walk is listed, one by one. */
final class Model {
    static final int POINTS = 7;
    static final int ARCS = 20;

    private final int[][] arcs = new int[ARCS][];

    /** A ring: the points that it comes to, its weight and the number of its arcs. */
    private record Ring(int points, int weight, int length) {
        boolean hasLowerMeanThan(Ring other) {
            return weight * other.length < other.weight * length;
        }

        boolean hasMeanOf(Ring other) {
            return weight * other.length == other.weight * length;
        }
    }

    private final List<Ring> rings = new ArrayList<>();
    // weights[s][n][t]: the weights of all walks from s to t of exactly n arcs.
    private final List<List<List<Set<Integer>>>> weights = new ArrayList<>();

    int add(int a, int b, int weight) {
        if (a < 0 || a > 6 || b < 0 || b > 6 || weight < -20 || weight > 20) {
            return -1000;
        }
        for (int k = 0; k < ARCS; k++) {
            if (arcs[k] == null) {
                arcs[k] = new int[] {a, b, weight};
                return k;
            }
        }
        return -2000;
    }

    boolean has(int k) {
        return k >= 0 && k < ARCS && arcs[k] != null;
    }

    int remove(int k) {
        if (!has(k)) {
            return -1000;
        }
        int weight = arcs[k][2];
        arcs[k] = null;
        return weight;
    }

    int change(int k, int weight) {
        if (!has(k) || weight < -20 || weight > 20) {
            return -1000;
        }
        int before = arcs[k][2];
        arcs[k][2] = weight;
        return before;
    }

    int arcs() {
        int set = 0;
        for (int k = 0; k < ARCS; k++) {
            set += arcs[k] == null ? 0 : 1 << k;
        }
        return set;
    }

    /** To be called after the arcs have changed and before the questions below. */
    void list() {
        rings.clear();
        weights.clear();
        for (int s = 0; s < POINTS; s++) {
            listRings(s, s, 1 << s, 0, 0);
            weights.add(listWalks(s));
        }
    }

    private void listRings(int start, int at, int points, int weight, int length) {
        for (int[] arc : arcs) {
            if (arc != null && arc[0] == at) {
                if (arc[1] == start) {
                    rings.add(new Ring(points, weight + arc[2], length + 1));
                } else if ((points >> arc[1] & 1) == 0) {
                    listRings(start, arc[1], points | 1 << arc[1], weight + arc[2], length + 1);
                }
            }
        }
    }

    private List<List<Set<Integer>>> listWalks(int s) {
        List<List<Set<Integer>>> byLength = new ArrayList<>();
        byLength.add(emptyRow());
        byLength.get(0).get(s).add(0);
        for (int n = 1; n < POINTS; n++) {
            List<Set<Integer>> row = emptyRow();
            for (int[] arc : arcs) {
                if (arc != null) {
                    for (int weight : byLength.get(n - 1).get(arc[0])) {
                        row.get(arc[1]).add(weight + arc[2]);
                    }
                }
            }
            byLength.add(row);
        }
        return byLength;
    }

    private static List<Set<Integer>> emptyRow() {
        List<Set<Integer>> row = new ArrayList<>();
        for (int t = 0; t < POINTS; t++) {
            row.add(new HashSet<>());
        }
        return row;
    }

    private Set<Integer> walks(int s, int t) {
        Set<Integer> all = new HashSet<>();
        for (List<Set<Integer>> row : weights.get(s)) {
            all.addAll(row.get(t));
        }
        return all;
    }

    int least(int s, int t) {
        for (Ring ring : rings) {
            for (int p = 0; p < POINTS; p++) {
                if (ring.weight < 0 && (ring.points >> p & 1) == 1 && !walks(s, p).isEmpty() && !walks(p, t).isEmpty()) {
                    return -4000;
                }
            }
        }
        return walks(s, t).stream().min(Integer::compare).orElse(-3000);
    }

    int fewest(int s, int t) {
        int least = least(s, t);
        for (int n = 0; n < POINTS && least > -1000; n++) {
            if (weights.get(s).get(n).get(t).contains(least)) {
                return n;
            }
        }
        return least;
    }

    int on(int s, int t) {
        int least = least(s, t);
        int set = 0;
        for (int k = 0; k < ARCS && least > -1000; k++) {
            if (has(k)) {
                Set<Integer> after = walks(arcs[k][1], t);
                for (int before : walks(s, arcs[k][0])) {
                    if (after.contains(least - before - arcs[k][2])) {
                        set |= 1 << k;
                    }
                }
            }
        }
        return set;
    }

    int reached(int s) {
        int set = 0;
        for (int t = 0; t < POINTS; t++) {
            set |= walks(s, t).isEmpty() ? 0 : 1 << t;
        }
        return set;
    }

    int low(int s) {
        int set = 0;
        for (int t = 0; t < POINTS; t++) {
            set |= least(s, t) == -4000 ? 1 << t : 0;
        }
        return set;
    }

    boolean calm() {
        return rings.stream().noneMatch(ring -> ring.weight < 0);
    }

    private Ring leastRing() {
        Ring least = null;
        for (Ring ring : rings) {
            if (least == null || ring.hasLowerMeanThan(least)) {
                least = ring;
            }
        }
        return least;
    }

    private static int commonDivisor(int a, int b) {
        return b == 0 ? Math.abs(a) : commonDivisor(b, a % b);
    }

    int meanTop() {
        Ring ring = leastRing();
        return ring == null ? -3000 : ring.weight / commonDivisor(ring.weight, ring.length);
    }

    int meanBottom() {
        Ring ring = leastRing();
        return ring == null ? -3000 : ring.length / commonDivisor(ring.weight, ring.length);
    }

    int onLeastRing() {
        Ring least = leastRing();
        int set = 0;
        for (Ring ring : rings) {
            set |= ring.hasMeanOf(least) ? ring.points : 0;
        }
        return set;
    }

    int around(int k) {
        if (!has(k)) {
            return -1000;
        }
        int back = least(arcs[k][1], arcs[k][0]);
        return back > -1000 ? back + arcs[k][2] : back;
    }

    int widest() {
        int greatest = -3000;
        for (int s = 0; s < POINTS; s++) {
            for (int t = 0; t < POINTS; t++) {
                int least = least(s, t);
                greatest = s == t || least == -4000 ? greatest : Math.max(greatest, least);
            }
        }
        return greatest;
    }
}

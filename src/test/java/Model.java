import java.util.ArrayList;
import java.util.Arrays;
import java.util.List;

/** The document once more, in its slowest and plainest form: tries all there is to try. For small nets. */
final class Model {
    static final int NONE = -1;

    private int n = 0;
    private final List<int[]> arcList = new ArrayList<>();
    private final int[] nearBits = new int[12];
    private final int[] listOf = new int[12];
    private final int[] attempt = new int[12];
    private final int[] colourTold = new int[12];
    private final int[] tintTold = new int[12];
    /** The shade is kept with the arc itself: an arc that comes later has none, whatever its number. */
    private static final int SHADE = 2;
    private List<Integer> takenTold = new ArrayList<>();
    private int leftTold = 0;

    Model() {
        clear();
    }

    int nodes() {
        return n;
    }

    int arcCount() {
        return arcList.size();
    }

    int node() {
        return n == 12 ? NONE : n++;
    }

    boolean near(int a, int b) {
        return (nearBits[a] >> b & 1) != 0;
    }

    int arc(int a, int b) {
        if (!isNode(a) || !isNode(b) || a == b || near(a, b) || arcList.size() == 40) {
            return NONE;
        }
        arcList.add(new int[] {a, b, NONE});
        nearBits[a] |= 1 << b;
        nearBits[b] |= 1 << a;
        return arcList.size() - 1;
    }

    boolean drop() {
        if (arcList.isEmpty()) {
            return false;
        }
        int[] gone = arcList.remove(arcList.size() - 1);
        nearBits[gone[0]] &= ~(1 << gone[1]);
        nearBits[gone[1]] &= ~(1 << gone[0]);
        return true;
    }

    int least() {
        for (int k = 0;; k++) {
            int[] free = new int[n];
            Arrays.fill(free, (1 << k) - 1);
            int[] found = first(free, n);
            if (found != null) {
                tell(colourTold, found);
                return k;
            }
        }
    }

    int even(int k) {
        if (k < 1 || k > 12) {
            return NONE;
        }
        int[] free = new int[n];
        Arrays.fill(free, (1 << k) - 1);
        int[] found = firstEven(free, k);
        tell(colourTold, found);
        return found == null ? 0 : 1;
    }

    int colour(int node) {
        return isNode(node) ? colourTold[node] : NONE;
    }

    /** Number of ways to cut the nodes into j sets without arcs, times x (x - 1) .. (x - j + 1), for all j. */
    long ways(long x) {
        long[] cuts = cuts();
        long sum = 0;
        for (int j = 0; j <= n; j++) {
            long product = cuts[j];
            for (int i = 0; i < j; i++) {
                product *= x - i;
            }
            sum += product;
        }
        return sum;
    }

    long coefficient(int power) {
        long[] cuts = cuts();
        long sum = 0;
        for (int j = 0; j <= n; j++) {
            long[] product = new long[14];
            product[0] = 1;
            for (int i = 0; i < j; i++) {
                long[] next = new long[14];
                for (int p = 0; p < 13; p++) {
                    next[p + 1] += product[p];
                    next[p] -= i * product[p];
                }
                product = next;
            }
            sum += power >= 0 && power < 13 ? cuts[j] * product[power] : 0;
        }
        return sum;
    }

    boolean list(int node, int bits) {
        if (!isNode(node) || bits < 0 || bits > 4095) {
            return false;
        }
        listOf[node] = bits;
        return true;
    }

    int lists() {
        int[] found = listed() == 0 ? null : first(Arrays.copyOf(listOf, n), n);
        tell(colourTold, found);
        return found == null ? 0 : 1;
    }

    long listed() {
        return listedBySet()[(1 << n) - 1];
    }

    /** Colour after colour: in how many ways just the nodes of a set have got one of the colours so far. */
    private long[] listedBySet() {
        long[] ways = new long[1 << n];
        ways[0] = 1;
        for (int c = 0; c < 12; c++) {
            long[] next = new long[1 << n];
            boolean[] fits = new boolean[1 << n];
            for (int set = 0; set < 1 << n; set++) {
                fits[set] = mayAllHave(set, c);
            }
            for (int set = 0; set < 1 << n; set++) {
                for (int now = set;; now = now - 1 & set) {
                    if (fits[now]) {
                        next[set] += ways[set ^ now];
                    }
                    if (now == 0) {
                        break;
                    }
                }
            }
            ways = next;
        }
        return ways;
    }

    int why() {
        int kept = (1 << n) - 1;
        long[] ways = listedBySet();
        if (ways[kept] != 0) {
            return 0;
        }
        for (int v = n - 1; v >= 0; v--) {
            if (ways[kept & ~(1 << v)] == 0) {
                kept &= ~(1 << v);
            }
        }
        return kept;
    }

    /** NONE for IllegalStateException. */
    int arcs() {
        int m = arcList.size();
        if (m > 16) {
            return NONE;
        }
        for (int k = 0;; k++) {
            int[] shades = new int[m];
            if (shadeFrom(0, shades, 0, k)) {
                for (int i = 0; i < m; i++) {
                    arcList.get(i)[SHADE] = shades[i];
                }
                return k;
            }
        }
    }

    int shade(int arc) {
        return arc >= 0 && arc < arcList.size() ? arcList.get(arc)[SHADE] : NONE;
    }

    int clique() {
        return greatest(true);
    }

    int apart() {
        return greatest(false);
    }

    int chordal() {
        takenTold = new ArrayList<>();
        leftTold = (1 << n) - 1;
        boolean found = true;
        while (found) {
            found = false;
            for (int v = 0; v < n && !found; v++) {
                if ((leftTold >> v & 1) != 0 && allSo(nearBits[v] & leftTold, true)) {
                    takenTold.add(v);
                    leftTold &= ~(1 << v);
                    found = true;
                }
            }
        }
        return leftTold == 0 ? 1 : 0;
    }

    int taken(int k) {
        return k >= 0 && k < takenTold.size() ? takenTold.get(k) : NONE;
    }

    int left() {
        return leftTold;
    }

    int greedy(int order) {
        if (order < 0 || order > 3) {
            return NONE;
        }
        int[] got = new int[n];
        Arrays.fill(got, NONE);
        List<Integer> away = new ArrayList<>();
        for (int step = 0; step < n; step++) {
            int pick = NONE;
            for (int v = 0; v < n; v++) {
                if (!away.contains(v) && (pick == NONE || goesAwayBefore(v, pick, away))) {
                    pick = v;
                }
            }
            away.add(pick);
        }
        int used = 0;
        for (int step = 0; step < n; step++) {
            int pick = NONE;
            for (int v = 0; v < n; v++) {
                if (got[v] == NONE && (pick == NONE || comesBefore(v, pick, order, got, away))) {
                    pick = v;
                }
            }
            int colour = 0;
            while ((coloursBy(pick, got) >> colour & 1) != 0) {
                colour++;
            }
            got[pick] = colour;
            used = Math.max(used, colour + 1);
        }
        tell(tintTold, got);
        return used;
    }

    int tint(int node) {
        return isNode(node) ? tintTold[node] : NONE;
    }

    boolean put(int node, int colour) {
        if (!isNode(node) || colour < NONE || colour > 11) {
            return false;
        }
        attempt[node] = colour;
        return true;
    }

    int tried(int node) {
        return isNode(node) ? attempt[node] : NONE;
    }

    int faults() {
        int count = 0;
        for (int[] arc : arcList) {
            count += attempt[arc[0]] != NONE && attempt[arc[0]] == attempt[arc[1]] ? 1 : 0;
        }
        return count;
    }

    int turn(int node, int colour) {
        if (!isNode(node) || colour < 0 || colour > 11 || attempt[node] == NONE || attempt[node] == colour) {
            return NONE;
        }
        int own = attempt[node];
        boolean[] reached = new boolean[n];
        reached[node] = true;
        for (int round = 0; round < n; round++) {
            for (int a = 0; a < n; a++) {
                for (int b = 0; b < n; b++) {
                    if (reached[a] && near(a, b) && (attempt[b] == own || attempt[b] == colour)) {
                        reached[b] = true;
                    }
                }
            }
        }
        int count = 0;
        for (int v = 0; v < n; v++) {
            if (reached[v]) {
                attempt[v] = attempt[v] == own ? colour : own;
                count++;
            }
        }
        return count;
    }

    int told(int what) {
        int answer = 0;
        switch (what) {
            case 0:
                return n;
            case 1:
                return arcList.size();
            case 2:
                for (int v = 0; v < n; v++) {
                    answer = Math.max(answer, Integer.bitCount(nearBits[v]));
                }
                return answer;
            case 3:
                return parts();
            case 4:
                return (int) Arrays.stream(attempt, 0, n).filter(c -> c != NONE).distinct().count();
            default:
                return NONE;
        }
    }

    void clear() {
        n = 0;
        arcList.clear();
        Arrays.fill(nearBits, 0);
        Arrays.fill(listOf, 4095);
        Arrays.fill(attempt, NONE);
        Arrays.fill(colourTold, NONE);
        Arrays.fill(tintTold, NONE);
        takenTold = new ArrayList<>();
        leftTold = 0;
    }

    private boolean isNode(int v) {
        return v >= 0 && v < n;
    }

    private void tell(int[] told, int[] found) {
        Arrays.fill(told, NONE);
        for (int v = 0; found != null && v < n; v++) {
            told[v] = found[v];
        }
    }

    private int[] first(int[] free, int most) {
        int[] got = new int[n];
        return paintFrom(0, got, free, most, 0) ? got : null;
    }

    private int[] firstEven(int[] free, int k) {
        int[] got = new int[n];
        return paintFrom(0, got, free, (n + k - 1) / k, k) ? got : null;
    }

    /** Node after node, the least colour first; k is 0 when the colouring need not be even. */
    private boolean paintFrom(int v, int[] got, int[] free, int most, int k) {
        if (v == n) {
            return k == 0 || isEven(got, k);
        }
        for (int c = 0; c < 12; c++) {
            int same = 0;
            boolean fits = (free[v] >> c & 1) != 0;
            for (int u = 0; u < v && fits; u++) {
                same += got[u] == c ? 1 : 0;
                fits = got[u] != c || !near(u, v);
            }
            if (fits && same < most) {
                got[v] = c;
                if (paintFrom(v + 1, got, free, most, k)) {
                    return true;
                }
            }
        }
        return false;
    }

    private boolean isEven(int[] got, int k) {
        int[] counts = new int[k];
        for (int v = 0; v < n; v++) {
            counts[got[v]]++;
        }
        Arrays.sort(counts);
        return counts[k - 1] - counts[0] <= 1;
    }

    private long[] cuts() {
        long[] cuts = new long[n + 1];
        cutFrom(0, new int[n], 0, cuts);
        return cuts;
    }

    private void cutFrom(int v, int[] sets, int count, long[] cuts) {
        if (v == n) {
            cuts[count]++;
            return;
        }
        for (int i = 0; i <= count; i++) {
            if ((sets[i] & nearBits[v]) == 0) {
                sets[i] |= 1 << v;
                cutFrom(v + 1, sets, Math.max(count, i + 1), cuts);
                sets[i] &= ~(1 << v);
            }
        }
    }

    private boolean mayAllHave(int set, int colour) {
        for (int v = 0; v < n; v++) {
            if ((set >> v & 1) != 0 && (listOf[v] >> colour & 1) == 0) {
                return false;
            }
        }
        return allSo(set, false);
    }

    /** Colours are alike, so the first shading takes up new ones in their order. */
    private boolean shadeFrom(int i, int[] shades, int used, int k) {
        if (i == shades.length) {
            return true;
        }
        for (int c = 0; c < k && c <= used; c++) {
            boolean fits = true;
            for (int j = 0; j < i && fits; j++) {
                fits = shades[j] != c || !touch(arcList.get(i), arcList.get(j));
            }
            shades[i] = c;
            if (fits && shadeFrom(i + 1, shades, Math.max(used, c + 1), k)) {
                return true;
            }
        }
        return false;
    }

    private static boolean touch(int[] a, int[] b) {
        return a[0] == b[0] || a[0] == b[1] || a[1] == b[0] || a[1] == b[1];
    }

    private boolean allSo(int set, boolean nearOnes) {
        for (int a = 0; a < n; a++) {
            for (int b = 0; b < a; b++) {
                if ((set >> a & set >> b & 1) != 0 && near(a, b) != nearOnes) {
                    return false;
                }
            }
        }
        return true;
    }

    private int greatest(boolean nearOnes) {
        int best = 0;
        for (int set = 1; set < 1 << n; set++) {
            if (allSo(set, nearOnes)) {
                int more = Integer.bitCount(set) - Integer.bitCount(best);
                int differ = set ^ best;
                if (more > 0 || more == 0 && (set & differ & -differ) != 0) {
                    best = set;
                }
            }
        }
        return best;
    }

    private int nearLeft(int v, List<Integer> away) {
        int count = 0;
        for (int u = 0; u < n; u++) {
            count += near(u, v) && !away.contains(u) ? 1 : 0;
        }
        return count;
    }

    private boolean goesAwayBefore(int v, int other, List<Integer> away) {
        int a = nearLeft(v, away);
        int b = nearLeft(other, away);
        return a < b || a == b && v > other;
    }

    private boolean comesBefore(int v, int other, int order, int[] got, List<Integer> away) {
        int[] a = {0, 0};
        int[] b = {0, 0};
        if (order == 2) {
            return away.indexOf(v) > away.indexOf(other);
        }
        if (order == 3) {
            a[0] = Integer.bitCount(coloursBy(v, got));
            b[0] = Integer.bitCount(coloursBy(other, got));
        }
        if (order != 0) {
            a[1] = Integer.bitCount(nearBits[v]);
            b[1] = Integer.bitCount(nearBits[other]);
        }
        int greater = Arrays.compare(a, b);
        return greater > 0 || greater == 0 && v < other;
    }

    private int coloursBy(int v, int[] got) {
        int bits = 0;
        for (int u = 0; u < n; u++) {
            bits |= near(u, v) && got[u] != NONE ? 1 << got[u] : 0;
        }
        return bits;
    }

    private int parts() {
        int[] part = new int[n];
        for (int v = 0; v < n; v++) {
            part[v] = v;
        }
        for (int[] arc : arcList) {
            int from = part[arc[0]];
            int to = part[arc[1]];
            for (int v = 0; v < n; v++) {
                part[v] = part[v] == from ? to : part[v];
            }
        }
        return (int) Arrays.stream(part).distinct().count();
    }
}

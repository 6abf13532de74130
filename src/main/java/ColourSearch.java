import java.util.Arrays;

/**
 * Colours of a net's nodes and arcs. The document of the project says, promise by promise, what each call answers.
 */
public final class ColourSearch {
    public static final int NONE = -1;

    private static final int MOST_NODES = 12;
    private static final int MOST_ARCS = 40;
    private static final int COLOURS = 12;
    private static final int ALL_COLOURS = (1 << COLOURS) - 1;
    private static final int MOST_SHADED_ARCS = 16;
    private static final int ORDERS = 4;

    private final Net net = new Net();
    private final Painter painter = new Painter();
    private final Polynomial polynomial = new Polynomial();
    private final ListCounter listCounter = new ListCounter();
    private final SetFinder setFinder = new SetFinder();
    private final TakingApart takingApart = new TakingApart();
    private final Greedy greedyRun = new Greedy();
    private final int[] allowed = new int[MOST_NODES];
    private final int[] shown = new int[MOST_NODES];
    private final int[] shades = new int[MOST_ARCS];
    private final int[] attempt = new int[MOST_NODES];

    public ColourSearch() {
        Arrays.fill(allowed, ALL_COLOURS);
        Arrays.fill(shown, NONE);
        Arrays.fill(shades, NONE);
        Arrays.fill(attempt, NONE);
    }

    public int node() {
        return net.nodes < MOST_NODES ? net.addNode() : NONE;
    }

    public int arc(int a, int b) {
        if (!net.mayJoin(a, b)) {
            return NONE;
        }
        // A dropped arc may have left its shade under this number; the new arc was not there then.
        shades[net.arcCount] = NONE;
        return net.join(a, b);
    }

    public boolean drop() {
        return net.cutLast();
    }

    public int least() {
        for (int k = 0; k <= COLOURS; k++) {
            painter.startNodes(net, (1 << k) - 1);
            if (painter.paintFirst()) {
                showPaint();
                return k;
            }
        }
        return NONE;
    }

    public int even(int k) {
        if (k < 1 || k > COLOURS) {
            return NONE;
        }
        painter.startNodes(net, (1 << k) - 1);
        painter.shareEvenly(k);
        return showWhether(painter.paintFirst());
    }

    public int colour(int node) {
        return net.isNode(node) ? shown[node] : NONE;
    }

    public long ways(long k) {
        return polynomial.valueAt(net, k);
    }

    public long coefficient(int i) {
        return polynomial.atPower(net, i);
    }

    public boolean list(int node, int bits) {
        if (!net.isNode(node) || (bits & ~ALL_COLOURS) != 0) {
            return false;
        }
        allowed[node] = bits;
        return true;
    }

    public int lists() {
        painter.startLists(net, allowed);
        return showWhether(painter.paintFirst());
    }

    public long listed() {
        return listCounter.count(net, allowed);
    }

    public int why() {
        int kept = net.everyNode();
        if (hasListColouring(kept)) {
            return 0;
        }
        for (int v = net.nodes - 1; v >= 0; v--) {
            int fewer = kept & ~(1 << v);
            if (!hasListColouring(fewer)) {
                kept = fewer;
            }
        }
        return kept;
    }

    public int arcs() throws IllegalStateException {
        if (net.arcCount > MOST_SHADED_ARCS) {
            throw new IllegalStateException("more than 16 arcs");
        }
        for (int k = net.mostNear(); k <= COLOURS; k++) {
            painter.startArcs(net, (1 << k) - 1);
            if (painter.paintFirst()) {
                Arrays.fill(shades, NONE);
                System.arraycopy(painter.paint, 0, shades, 0, net.arcCount);
                return k;
            }
        }
        return NONE;
    }

    public int shade(int arc) {
        return arc >= 0 && arc < net.arcCount ? shades[arc] : NONE;
    }

    public int clique() {
        return setFinder.greatestClique(net);
    }

    public int apart() {
        return setFinder.greatestApart(net);
    }

    public int chordal() {
        takingApart.run(net);
        return takingApart.remains == 0 ? 1 : 0;
    }

    public int taken(int k) {
        return k >= 0 && k < takingApart.count ? takingApart.sequence[k] : NONE;
    }

    public int left() {
        return takingApart.remains;
    }

    public int greedy(int order) {
        return order >= 0 && order < ORDERS ? greedyRun.run(net, order) : NONE;
    }

    public int tint(int node) {
        return net.isNode(node) ? greedyRun.tints[node] : NONE;
    }

    public boolean put(int node, int colour) {
        if (!net.isNode(node) || colour != NONE && !isColour(colour)) {
            return false;
        }
        attempt[node] = colour;
        return true;
    }

    public int tried(int node) {
        return net.isNode(node) ? attempt[node] : NONE;
    }

    public int faults() {
        int count = 0;
        for (int i = 0; i < net.arcCount; i++) {
            int colour = attempt[net.tail[i]];
            if (colour != NONE && colour == attempt[net.head[i]]) {
                count++;
            }
        }
        return count;
    }

    public int turn(int node, int colour) {
        if (!net.isNode(node) || !isColour(colour) || attempt[node] == NONE || attempt[node] == colour) {
            return NONE;
        }
        int own = attempt[node];
        int chain = net.partOf(1 << node, triedWith(own) | triedWith(colour));
        for (int v = 0; v < net.nodes; v++) {
            if ((chain >> v & 1) != 0) {
                attempt[v] = attempt[v] == own ? colour : own;
            }
        }
        return Integer.bitCount(chain);
    }

    public int told(int what) {
        switch (what) {
            case 0:
                return net.nodes;
            case 1:
                return net.arcCount;
            case 2:
                return net.mostNear();
            case 3:
                return net.countParts();
            case 4:
                return countTriedColours();
            default:
                return NONE;
        }
    }

    public void clear() {
        net.removeAll();
        takingApart.forget();
        greedyRun.forget();
        Arrays.fill(allowed, ALL_COLOURS);
        Arrays.fill(shown, NONE);
        Arrays.fill(shades, NONE);
        Arrays.fill(attempt, NONE);
    }

    private static boolean isColour(int colour) {
        return colour >= 0 && colour < COLOURS;
    }

    private static int lowestOf(int bits) {
        return Integer.bitCount((bits & -bits) - 1);
    }

    private void showPaint() {
        Arrays.fill(shown, NONE);
        System.arraycopy(painter.paint, 0, shown, 0, net.nodes);
    }

    private int showWhether(boolean painted) {
        if (painted) {
            showPaint();
            return 1;
        }
        Arrays.fill(shown, NONE);
        return 0;
    }

    private boolean hasListColouring(int kept) {
        painter.startLists(net, allowed);
        return painter.canPaint(kept);
    }

    private int triedWith(int colour) {
        int bits = 0;
        for (int v = 0; v < net.nodes; v++) {
            if (attempt[v] == colour) {
                bits |= 1 << v;
            }
        }
        return bits;
    }

    private int countTriedColours() {
        int bits = 0;
        for (int v = 0; v < net.nodes; v++) {
            if (attempt[v] != NONE) {
                bits |= 1 << attempt[v];
            }
        }
        return Integer.bitCount(bits);
    }

    /** The nodes and arcs; a set of nodes is an int with a bit for each. */
    private static final class Net {
        final int[] near = new int[MOST_NODES];
        final int[] tail = new int[MOST_ARCS];
        final int[] head = new int[MOST_ARCS];
        int nodes;
        int arcCount;
        /** Tells those who keep an answer whether it is still of this net. */
        int version;

        boolean isNode(int v) {
            return v >= 0 && v < nodes;
        }

        int everyNode() {
            return (1 << nodes) - 1;
        }

        int addNode() {
            version++;
            return nodes++;
        }

        boolean mayJoin(int a, int b) {
            return isNode(a) && isNode(b) && a != b && (near[a] >> b & 1) == 0 && arcCount < MOST_ARCS;
        }

        int join(int a, int b) {
            version++;
            near[a] |= 1 << b;
            near[b] |= 1 << a;
            tail[arcCount] = a;
            head[arcCount] = b;
            return arcCount++;
        }

        boolean cutLast() {
            if (arcCount == 0) {
                return false;
            }
            version++;
            arcCount--;
            int a = tail[arcCount];
            int b = head[arcCount];
            near[a] &= ~(1 << b);
            near[b] &= ~(1 << a);
            return true;
        }

        void removeAll() {
            version++;
            nodes = 0;
            arcCount = 0;
            Arrays.fill(near, 0);
        }

        int mostNear() {
            int most = 0;
            for (int v = 0; v < nodes; v++) {
                most = Math.max(most, Integer.bitCount(near[v]));
            }
            return most;
        }

        boolean allNear(int set) {
            for (int v = 0; v < nodes; v++) {
                if ((set >> v & 1) != 0 && (set & ~near[v]) != 1 << v) {
                    return false;
                }
            }
            return true;
        }

        /** The nodes that can be reached from those of seed by near ones within a set. */
        int partOf(int seed, int within) {
            int reached = seed;
            int fresh = seed;
            for (int i = 0; i < MOST_NODES && fresh != 0; i++) {
                int next = 0;
                for (int v = 0; v < nodes; v++) {
                    if ((fresh >> v & 1) != 0) {
                        next |= near[v];
                    }
                }
                fresh = next & within & ~reached;
                reached |= fresh;
            }
            return reached;
        }

        int countParts() {
            int count = 0;
            int seen = 0;
            for (int v = 0; v < nodes; v++) {
                if ((seen >> v & 1) == 0) {
                    seen |= partOf(1 << v, everyNode());
                    count++;
                }
            }
            return count;
        }
    }

    /**
     * Paints items, of which near ones differ, with the colours free for each. Items are the net's nodes, or its arcs.
     * Every question goes to one search for any painting; the first painting is then found without going back.
     */
    private static final class Painter {
        static final int MOST_ITEMS = 16;

        final int[] paint = new int[MOST_ITEMS];
        private final int[] near = new int[MOST_ITEMS];
        /** By depth of the search; one row more than items, for the first painting looks one step ahead. */
        private final int[][] free = new int[MOST_ITEMS + 2][MOST_ITEMS];
        private final int[] uses = new int[COLOURS];
        private int items;
        private boolean evenly;
        private int palette;
        private int share;
        private int bigger;
        private int bigNow;

        void startNodes(Net net, int colours) {
            start(net.nodes);
            System.arraycopy(net.near, 0, near, 0, net.nodes);
            Arrays.fill(free[0], colours);
        }

        void startLists(Net net, int[] allowed) {
            start(net.nodes);
            System.arraycopy(net.near, 0, near, 0, net.nodes);
            System.arraycopy(allowed, 0, free[0], 0, net.nodes);
        }

        void startArcs(Net net, int colours) {
            start(Math.min(net.arcCount, MOST_ITEMS));
            Arrays.fill(free[0], colours);
            for (int i = 0; i < items; i++) {
                int ends = 1 << net.tail[i] | 1 << net.head[i];
                near[i] = 0;
                for (int j = 0; j < items; j++) {
                    if (j != i && (ends & (1 << net.tail[j] | 1 << net.head[j])) != 0) {
                        near[i] |= 1 << j;
                    }
                }
            }
        }

        private void start(int count) {
            items = count;
            evenly = false;
            palette = COLOURS;
            share = MOST_ITEMS;
            bigger = 0;
            bigNow = 0;
            Arrays.fill(uses, 0);
        }

        /** The k colours (1 or more) get share items each, and as many of them as are over one more. */
        void shareEvenly(int k) {
            evenly = true;
            palette = k;
            share = k > 0 ? items / k : 0;
            bigger = items - share * k;
        }

        boolean paintFirst() {
            int others = (1 << items) - 1;
            if (!paintable(0, others)) {
                return false;
            }
            for (int item = 0; item < items; item++) {
                others &= ~(1 << item);
                paint[item] = settle(item, others);
            }
            return true;
        }

        private int settle(int item, int others) {
            int choice = free[0][item] & openColours();
            for (int c = 0; c < palette; c++) {
                if ((choice >> c & 1) == 0 || likeEarlier(0, others, choice, c)) {
                    continue;
                }
                use(c);
                if (spread(0, others, item, c) && paintable(1, others)) {
                    System.arraycopy(free[1], 0, free[0], 0, items);
                    return c;
                }
                unuse(c);
            }
            return NONE;
        }

        boolean canPaint(int set) {
            return paintable(0, set);
        }

        /** Whether the items of todo can be painted with what is free at this depth. */
        private boolean paintable(int depth, int todo) {
            if (depth > MOST_ITEMS) {
                return todo == 0;
            }
            if (evenly && starved(depth, todo)) {
                return false;
            }
            int rest = evenly ? todo : withoutEasy(depth, todo);
            if (rest == 0) {
                return true;
            }
            int open = openColours();
            int item = tightest(depth, rest, open);
            int choice = free[depth][item] & open;
            int others = rest & ~(1 << item);
            for (int c = 0; c < palette; c++) {
                if ((choice >> c & 1) == 0 || likeEarlier(depth, others, choice, c)) {
                    continue;
                }
                use(c);
                boolean done = spread(depth, others, item, c) && paintable(depth + 1, others);
                unuse(c);
                if (done) {
                    return true;
                }
            }
            return false;
        }

        /** Leaves out items that find a colour however the others are painted: more are free than items near. */
        private int withoutEasy(int depth, int todo) {
            int rest = todo;
            boolean found = true;
            for (int round = 0; round < MOST_ITEMS && found; round++) {
                found = false;
                for (int i = 0; i < items; i++) {
                    if ((rest >> i & 1) != 0 && Integer.bitCount(free[depth][i]) > Integer.bitCount(near[i] & rest)) {
                        rest &= ~(1 << i);
                        found = true;
                    }
                }
            }
            return rest;
        }

        private int tightest(int depth, int rest, int open) {
            int best = 0;
            int bestRank = Integer.MAX_VALUE;
            for (int i = 0; i < items; i++) {
                if ((rest >> i & 1) != 0) {
                    // Fewest colours first, then most items near: both make a dead end show early.
                    int rank = Integer.bitCount(free[depth][i] & open) * (MOST_ITEMS + 1) - Integer.bitCount(near[i] & rest);
                    if (rank < bestRank) {
                        best = i;
                        bestRank = rank;
                    }
                }
            }
            return best;
        }

        /** Whether a lower colour of choice, which has failed, could be turned with c all over: c fails then too. */
        private boolean likeEarlier(int depth, int others, int choice, int c) {
            for (int e = 0; e < c; e++) {
                if ((choice >> e & 1) != 0 && (!evenly || uses[e] == uses[c]) && freeAlike(depth, others, e, c)) {
                    return true;
                }
            }
            return false;
        }

        private boolean freeAlike(int depth, int others, int e, int c) {
            for (int i = 0; i < items; i++) {
                if ((others >> i & 1) != 0 && ((free[depth][i] >> e ^ free[depth][i] >> c) & 1) != 0) {
                    return false;
                }
            }
            return true;
        }

        /** What is free for the others once item has colour c; false when one of them has nothing left. */
        private boolean spread(int depth, int others, int item, int c) {
            int[] now = free[depth];
            int[] then = free[depth + 1];
            for (int i = 0; i < items; i++) {
                if ((others >> i & 1) != 0) {
                    then[i] = (near[item] >> i & 1) != 0 ? now[i] & ~(1 << c) : now[i];
                    if (then[i] == 0) {
                        return false;
                    }
                }
            }
            return true;
        }

        /** Whether a colour can no longer get its share. */
        private boolean starved(int depth, int todo) {
            for (int c = 0; c < palette; c++) {
                int need = share - uses[c];
                for (int i = 0; i < items && need > 0; i++) {
                    if ((todo >> i & 1) != 0 && (free[depth][i] >> c & 1) != 0) {
                        need--;
                    }
                }
                if (need > 0) {
                    return true;
                }
            }
            return false;
        }

        private int openColours() {
            if (!evenly) {
                return ALL_COLOURS;
            }
            int most = bigNow < bigger ? share + 1 : share;
            int open = 0;
            for (int c = 0; c < palette; c++) {
                if (uses[c] < most) {
                    open |= 1 << c;
                }
            }
            return open;
        }

        private void use(int c) {
            uses[c]++;
            if (uses[c] > share) {
                bigNow++;
            }
        }

        private void unuse(int c) {
            if (uses[c] > share) {
                bigNow--;
            }
            uses[c]--;
        }
    }

    /**
     * The polynomial of a net. A node whose near ones are all near to one another gives a factor (x - their number);
     * where there is none such, two nodes that are not near either differ (an arc more) or are alike (one node).
     */
    private static final class Polynomial {
        /** Each net on the pile has fewer pairs that are not near than the one below it, which are at most 66. */
        private static final int PILE = 68;
        private static final int FAR_TOO_MANY = 1000000;
        private static final int BITS_OF_A_COUNT = 4;

        private final int[][] near = new int[PILE][MOST_NODES];
        private final int[] nodes = new int[PILE];
        /** How often each factor (x - d) stands before the net, 4 bits for each d. */
        private final long[] factors = new long[PILE];
        private final long[] powers = new long[MOST_NODES + 1];
        private final long[] product = new long[MOST_NODES + 1];
        private int versionSeen = NONE;

        long valueAt(Net net, long x) {
            update(net);
            long value = 0;
            for (int i = net.nodes; i >= 0; i--) {
                value = value * x + powers[i];
            }
            return value;
        }

        long atPower(Net net, int i) {
            update(net);
            return i >= 0 && i <= net.nodes ? powers[i] : 0;
        }

        private void update(Net net) {
            if (versionSeen == net.version) {
                return;
            }
            versionSeen = net.version;
            Arrays.fill(powers, 0);
            System.arraycopy(net.near, 0, near[0], 0, MOST_NODES);
            nodes[0] = net.everyNode();
            factors[0] = 0;
            int top = 0;
            for (int i = 0; i < FAR_TOO_MANY && top >= 0; i++) {
                takeFactors(top);
                // No such pair: no node is left, for one whose near ones are all near would be a factor by now.
                int pair = farPair(top, near[top][fewestNear(top)] & nodes[top]);
                if (pair == 0 || top + 1 >= PILE) {
                    addProduct(factors[top]);
                    top--;
                } else {
                    splitTop(top, pair);
                    top++;
                }
            }
        }

        private void takeFactors(int top) {
            boolean found = true;
            for (int round = 0; round < MOST_NODES && found; round++) {
                found = false;
                for (int v = 0; v < MOST_NODES; v++) {
                    if ((nodes[top] >> v & 1) != 0 && farPair(top, near[top][v] & nodes[top]) == 0) {
                        int degree = Integer.bitCount(near[top][v] & nodes[top]);
                        factors[top] += 1L << degree * BITS_OF_A_COUNT;
                        nodes[top] &= ~(1 << v);
                        found = true;
                    }
                }
            }
        }

        /** Two nodes of a set that are not near, as bits; 0 when there are none. */
        private int farPair(int top, int set) {
            int[] row = near[top];
            for (int v = 0; v < MOST_NODES; v++) {
                if ((set >> v & 1) != 0) {
                    int far = set & ~row[v] & ~(1 << v);
                    if (far != 0) {
                        return 1 << v | (far & -far);
                    }
                }
            }
            return 0;
        }

        private int fewestNear(int top) {
            int best = 0;
            int fewest = MOST_NODES;
            for (int v = 0; v < MOST_NODES; v++) {
                if ((nodes[top] >> v & 1) != 0) {
                    int count = Integer.bitCount(near[top][v] & nodes[top]);
                    if (count < fewest) {
                        best = v;
                        fewest = count;
                    }
                }
            }
            return best;
        }

        /** The net at top gives way to the one where the pair is one node; above it comes the one with the arc. */
        private void splitTop(int top, int pair) {
            int a = lowestOf(pair);
            int b = lowestOf(pair & pair - 1);
            System.arraycopy(near[top], 0, near[top + 1], 0, MOST_NODES);
            nodes[top + 1] = nodes[top];
            factors[top + 1] = factors[top];
            near[top + 1][a] |= 1 << b;
            near[top + 1][b] |= 1 << a;
            int[] row = near[top];
            row[a] |= row[b];
            for (int v = 0; v < MOST_NODES; v++) {
                if ((row[b] >> v & 1) != 0) {
                    row[v] |= 1 << a;
                }
            }
            nodes[top] &= ~(1 << b);
        }

        private void addProduct(long counts) {
            Arrays.fill(product, 0);
            product[0] = 1;
            int degree = 0;
            for (int d = 0; d < MOST_NODES; d++) {
                int times = (int) (counts >> d * BITS_OF_A_COUNT) & (1 << BITS_OF_A_COUNT) - 1;
                for (int t = 0; t < times && degree < MOST_NODES; t++) {
                    degree++;
                    for (int i = degree; i > 0; i--) {
                        product[i] = product[i - 1] - d * product[i];
                    }
                    product[0] = -d * product[0];
                }
            }
            for (int i = 0; i <= degree; i++) {
                powers[i] += product[i];
            }
        }
    }

    /**
     * Counts colourings by lists. What simple nodes cannot settle is counted over all ways to cut the nodes into blocks
     * that hang together: the product of each block's weight (the coefficient of x in its own polynomial) and of the
     * number of colours that all its lists have.
     */
    private static final class ListCounter {
        private final int[] open = new int[MOST_NODES];
        private int[] clash = new int[1];
        private int[] weight = new int[1];
        private int[] common = new int[1];
        private int[] gain = new int[1];
        private long[] sum = new long[1];
        private int rest;
        private int versionSeen = NONE;
        private int restSeen;

        long count(Net net, int[] allowed) {
            System.arraycopy(allowed, 0, open, 0, net.nodes);
            rest = net.everyNode();
            long product = takeSimple(net);
            if (product == 0 || rest == 0) {
                return product;
            }
            makeRoom(1 << net.nodes);
            // Weights do not ask for the lists, so they serve until the net is another.
            boolean weighed = versionSeen == net.version && restSeen == rest;
            versionSeen = net.version;
            restSeen = rest;
            int waiting = rest;
            for (int v = 0; v < net.nodes; v++) {
                if ((waiting >> v & 1) != 0) {
                    int part = net.partOf(1 << v, rest);
                    waiting &= ~part;
                    if (!weighed) {
                        weighSetsOf(net, part);
                    }
                    product *= countPart(part);
                }
            }
            return product;
        }

        private void makeRoom(int size) {
            if (weight.length < size && size > 0) {
                clash = new int[size];
                weight = new int[size];
                common = new int[size];
                gain = new int[size];
                sum = new long[size];
                versionSeen = NONE;
            }
        }

        /** Takes nodes away from the rest of which it is plain how often they multiply what the others can do. */
        private long takeSimple(Net net) {
            long product = 1;
            boolean found = true;
            for (int round = 0; round < MOST_NODES && found; round++) {
                found = false;
                for (int v = 0; v < net.nodes; v++) {
                    int beside = net.near[v] & rest;
                    if ((rest >> v & 1) == 0) {
                        continue;
                    }
                    if (Integer.bitCount(open[v]) <= 1) {
                        product *= Integer.bitCount(open[v]);
                        takeColourFrom(net, beside, open[v]);
                    } else if (net.allNear(beside) && (openTo(net, beside) & ~open[v]) == 0) {
                        // The near ones have all different colours, each of them out of this node's list.
                        product *= Integer.bitCount(open[v]) - Integer.bitCount(beside);
                    } else {
                        continue;
                    }
                    rest &= ~(1 << v);
                    found = true;
                }
            }
            return product;
        }

        private void takeColourFrom(Net net, int set, int bits) {
            for (int v = 0; v < net.nodes; v++) {
                if ((set >> v & 1) != 0) {
                    open[v] &= ~bits;
                }
            }
        }

        private int openTo(Net net, int set) {
            int bits = 0;
            for (int v = 0; v < net.nodes; v++) {
                if ((set >> v & 1) != 0) {
                    bits |= open[v];
                }
            }
            return bits;
        }

        private void weighSetsOf(Net net, int part) {
            int size = 1 << Integer.bitCount(part);
            int set = 0;
            clash[0] = 0;
            for (int i = 1; i < size; i++) {
                set = set - part & part;
                clash[set] = clashIn(net, set);
                if ((set & set - 1) == 0) {
                    weight[set] = 1;
                } else {
                    weight[set] = hangsTogether(net, set) ? weigh(set) : 0;
                }
            }
        }

        /** The highest node of a set that is near to a higher one of it, as a bit; 0: no two are near. */
        private int clashIn(Net net, int set) {
            int higher = set & set - 1;
            if (clash[higher] != 0) {
                return clash[higher];
            }
            return (net.near[lowestOf(set)] & higher) != 0 ? set ^ higher : 0;
        }

        /** Weights of smaller sets are known: they are 0 just where a set does not hang together. */
        private boolean hangsTogether(Net net, int set) {
            for (int v = 0; v < net.nodes; v++) {
                int bit = 1 << v;
                if ((set & bit) != 0 && (net.near[v] & set) != 0 && weight[set ^ bit] != 0) {
                    return true;
                }
            }
            return false;
        }

        /** With one colour there are no colourings of the set: so the sum over the blocks of its lowest node is 0. */
        private int weigh(int set) {
            int higher = set & set - 1;
            int total = 0;
            int others = higher;
            int size = 1 << Integer.bitCount(higher);
            for (int i = 0; i < size && others != 0; i++) {
                int bit = clash[others];
                if (bit == 0) {
                    total -= weight[set ^ others];
                    others = others - 1 & higher;
                } else {
                    // All sets that have the same clash lie next to each other: they are leapt over.
                    others = others ^ bit | higher & bit - 1;
                }
            }
            return total;
        }

        private long countPart(int part) {
            findGains(part);
            sum[0] = 1;
            int higher = part & part - 1;
            int size = 1 << Integer.bitCount(higher);
            int set = 0;
            for (int i = 1; i < size; i++) {
                set = set - higher & higher;
                sum[set] = sumOverBlocks(set);
            }
            return sumOverBlocks(part);
        }

        private void findGains(int part) {
            int size = 1 << Integer.bitCount(part);
            int set = 0;
            common[0] = ALL_COLOURS;
            for (int i = 1; i < size; i++) {
                set = set - part & part;
                common[set] = common[set & set - 1] & open[lowestOf(set)];
                gain[set] = weight[set] * Integer.bitCount(common[set]);
            }
        }

        /** The lowest node of a set stands in one block of each cut; the others are cut in all their ways. */
        private long sumOverBlocks(int set) {
            int higher = set & set - 1;
            int size = 1 << Integer.bitCount(higher);
            long total = 0;
            int others = 0;
            for (int i = 0; i < size; i++) {
                total += gain[set ^ others] * sum[others];
                others = others - higher & higher;
            }
            return total;
        }
    }

    /** Finds the greatest set of nodes that fit together; sets with lower nodes are met first. */
    private static final class SetFinder {
        private final int[] fits = new int[MOST_NODES];
        private int best;

        int greatestClique(Net net) {
            System.arraycopy(net.near, 0, fits, 0, net.nodes);
            return greatest(net.everyNode());
        }

        int greatestApart(Net net) {
            for (int v = 0; v < net.nodes; v++) {
                fits[v] = ~net.near[v];
            }
            return greatest(net.everyNode());
        }

        private int greatest(int all) {
            best = 0;
            grow(0, 0, all);
            return best;
        }

        private void grow(int depth, int chosen, int candidates) {
            if (depth > Integer.bitCount(best)) {
                best = chosen;
            }
            int open = candidates;
            for (int v = 0; v < MOST_NODES && depth < MOST_NODES; v++) {
                if (depth + Integer.bitCount(open) <= Integer.bitCount(best)) {
                    return;
                }
                if ((open >> v & 1) != 0) {
                    open &= ~(1 << v);
                    grow(depth + 1, chosen | 1 << v, open & fits[v]);
                }
            }
        }
    }

    /** Takes a net apart node by node, and keeps how it went. */
    private static final class TakingApart {
        final int[] sequence = new int[MOST_NODES];
        int count;
        int remains;

        void run(Net net) {
            count = 0;
            remains = net.everyNode();
            for (int i = 0; i < net.nodes; i++) {
                int v = lowestLoose(net);
                if (v == NONE) {
                    return;
                }
                sequence[count] = v;
                count++;
                remains &= ~(1 << v);
            }
        }

        void forget() {
            count = 0;
            remains = 0;
        }

        private int lowestLoose(Net net) {
            for (int v = 0; v < net.nodes; v++) {
                if ((remains >> v & 1) != 0 && net.allNear(net.near[v] & remains)) {
                    return v;
                }
            }
            return NONE;
        }
    }

    /** Gives each node in turn the least colour that no near one has. */
    private static final class Greedy {
        final int[] tints = new int[MOST_NODES];
        private final int[] peeled = new int[MOST_NODES];

        Greedy() {
            Arrays.fill(tints, NONE);
        }

        void forget() {
            Arrays.fill(tints, NONE);
        }

        int run(Net net, int order) {
            Arrays.fill(tints, NONE);
            if (order == 2) {
                peel(net);
            }
            int seen = 0;
            for (int step = 0; step < net.nodes; step++) {
                int v = next(net, order, step);
                tints[v] = lowestOf(~coloursNear(net, v));
                seen |= 1 << tints[v];
            }
            return Integer.bitCount(seen);
        }

        private int next(Net net, int order, int step) {
            switch (order) {
                case 1:
                    return nextByRank(net, false);
                case 2:
                    return peeled[net.nodes - 1 - step];
                case 3:
                    return nextByRank(net, true);
                default:
                    return step;
            }
        }

        private int nextByRank(Net net, boolean byColoursNear) {
            int best = 0;
            int bestRank = NONE;
            for (int v = 0; v < net.nodes; v++) {
                if (tints[v] == NONE) {
                    int rank = Integer.bitCount(net.near[v]);
                    if (byColoursNear) {
                        rank += Integer.bitCount(coloursNear(net, v)) * MOST_NODES;
                    }
                    if (rank > bestRank) {
                        best = v;
                        bestRank = rank;
                    }
                }
            }
            return best;
        }

        private int coloursNear(Net net, int v) {
            int bits = 0;
            for (int u = 0; u < net.nodes; u++) {
                if ((net.near[v] >> u & 1) != 0 && tints[u] != NONE) {
                    bits |= 1 << tints[u];
                }
            }
            return bits;
        }

        private void peel(Net net) {
            int rest = net.everyNode();
            for (int step = 0; step < net.nodes; step++) {
                int best = 0;
                int fewest = MOST_NODES;
                for (int v = net.nodes - 1; v >= 0; v--) {
                    int count = Integer.bitCount(net.near[v] & rest);
                    if ((rest >> v & 1) != 0 && count < fewest) {
                        best = v;
                        fewest = count;
                    }
                }
                peeled[step] = best;
                rest &= ~(1 << best);
            }
        }
    }
}

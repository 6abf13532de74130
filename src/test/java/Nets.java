import java.util.Arrays;

/** Nets that the tests use, and numbers that are none of a net's. */
final class Nets {
    static final int NONE = ColourSearch.NONE;
    /**
     * Numbers of no node: just outside, far outside, and such as come back inside when bits of them are lost (in a shift,
     * a byte, a short).
     */
    static final int[] WRONG_NODES = {
        -1, -2, -3, -11, -12, -13, -31, -32, -33, -64, -256, -65536, 12, 13, 15, 16, 31, 32, 33, 34, 35, 40, 64, 67, 256,
        259, 65536, 65539, 1 << 30, Integer.MAX_VALUE, Integer.MAX_VALUE - 1, Integer.MIN_VALUE, Integer.MIN_VALUE + 1,
        Integer.MIN_VALUE + 3,
    };
    /** The same for colours, but for -1, which is NONE and may be meant. */
    static final int[] WRONG_COLOURS = Arrays.copyOfRange(WRONG_NODES, 1, WRONG_NODES.length);
    /** The same for arcs. */
    static final int[] WRONG_ARCS = {
        -1, -2, -32, -40, -64, -256, -65536, 40, 41, 63, 64, 65, 67, 128, 256, 259, 65536, 65539, 1 << 30,
        Integer.MAX_VALUE, Integer.MAX_VALUE - 1, Integer.MIN_VALUE, Integer.MIN_VALUE + 1, Integer.MIN_VALUE + 3,
    };

    private Nets() {
    }

    static ColourSearch nodes(int count) {
        ColourSearch x = new ColourSearch();
        addNodes(x, count);
        return x;
    }

    static void addNodes(ColourSearch x, int count) {
        for (int i = 0; i < count; i++) {
            x.node();
        }
    }

    /** Arcs between the ends told in pairs. */
    static ColourSearch net(int count, int... ends) {
        ColourSearch x = nodes(count);
        join(x, ends);
        return x;
    }

    static void join(ColourSearch x, int... ends) {
        for (int i = 0; i < ends.length; i += 2) {
            x.arc(ends[i], ends[i + 1]);
        }
    }

    static ColourSearch path(int count) {
        ColourSearch x = nodes(count);
        for (int i = 1; i < count; i++) {
            x.arc(i - 1, i);
        }
        return x;
    }

    static ColourSearch ring(int count) {
        ColourSearch x = path(count);
        x.arc(count - 1, 0);
        return x;
    }

    /** Nodes 0 to count - 1 all near, and others without arcs up to all. */
    static ColourSearch complete(int count, int all) {
        ColourSearch x = nodes(all);
        for (int a = 0; a < count; a++) {
            for (int b = a + 1; b < count; b++) {
                x.arc(a, b);
            }
        }
        return x;
    }

    static ColourSearch complete(int count) {
        return complete(count, count);
    }

    /** Node 0 is near to all the others. */
    static ColourSearch star(int leaves) {
        ColourSearch x = nodes(leaves + 1);
        for (int i = 1; i <= leaves; i++) {
            x.arc(0, i);
        }
        return x;
    }

    /** Each of the first nodes is near to each of the others. */
    static ColourSearch twoSides(int left, int right, int all) {
        ColourSearch x = nodes(all);
        for (int a = 0; a < left; a++) {
            for (int b = 0; b < right; b++) {
                x.arc(a, left + b);
            }
        }
        return x;
    }

    /** A ring of eleven, and node 11 near to all of them. */
    static ColourSearch wheel() {
        ColourSearch x = ring(11);
        x.node();
        for (int v = 0; v < 11; v++) {
            x.arc(11, v);
        }
        return x;
    }

    /** Twelve nodes with the first forty arcs in the order of their ends. */
    static ColourSearch full() {
        ColourSearch x = nodes(12);
        for (int a = 0; a < 12 && x.told(1) < 40; a++) {
            for (int b = a + 1; b < 12; b++) {
                x.arc(a, b);
            }
        }
        return x;
    }

    static void listAll(ColourSearch x, int bits) {
        for (int v = x.told(0) - 1; v >= 0; v--) {
            x.list(v, bits);
        }
    }

    static void putAll(ColourSearch x, int... colours) {
        for (int v = 0; v < colours.length; v++) {
            x.put(v, colours[v]);
        }
    }

    static void dropAll(ColourSearch x) {
        for (int i = x.told(1); i > 0; i--) {
            x.drop();
        }
    }

    /** Whether arcs() throws just what the document says. */
    static boolean arcsThrows(ColourSearch x) {
        try {
            x.arcs();
            return false;
        } catch (RuntimeException e) {
            return e.getClass() == IllegalStateException.class;
        }
    }

    /** Has something told by every call that tells, on a net of five nodes and five arcs (a ring of four, a tail). */
    static ColourSearch toldOf() {
        ColourSearch x = net(5, 0, 1, 1, 2, 2, 3, 3, 0, 3, 4);
        x.list(0, 0b1100);
        x.list(4, 0b1);
        x.lists();
        x.arcs();
        x.clique();
        x.apart();
        x.chordal();
        x.greedy(1);
        putAll(x, 5, 6, 5, 6, NONE);
        return x;
    }

    /**
     * Every answer that an object can give, one after another, so that two objects can be held against each other. The
     * later ones change it; some 260 calls.
     */
    static String everything(ColourSearch x) {
        StringBuilder text = new StringBuilder();
        for (int v = 0; v < 12; v++) {
            text.append(" c").append(x.colour(v)).append(" t").append(x.tint(v)).append(" p").append(x.tried(v));
            text.append(" k").append(x.taken(v));
        }
        for (int i = 0; i < 40; i++) {
            text.append(" s").append(x.shade(i));
        }
        for (int what = 0; what < 5; what++) {
            text.append(" told").append(x.told(what));
        }
        text.append(" left").append(x.left()).append(" faults").append(x.faults()).append(" ways").append(x.ways(9));
        text.append(" listed").append(x.listed()).append(" why").append(x.why()).append(" lists").append(x.lists());
        for (int v = 0; v < 12; v++) {
            text.append(" c").append(x.colour(v));
        }
        text.append(" clique").append(x.clique()).append(" apart").append(x.apart());
        for (int i = x.told(1); i > 0; i--) {
            text.append(" drop").append(x.drop()).append(x.apart()).append(" faults").append(x.faults());
        }
        for (int v = x.told(0) - 1; v >= 0; v--) {
            text.append(" listed").append(x.listed());
            x.list(v, 4095);
        }
        return text.toString();
    }
}

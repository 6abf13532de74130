import java.math.BigInteger;

/** Boundary cases of colours of nodes (promises 5 to 9): a method for each sentence that names one. */
public final class BoundariesColourTest {
    private static final int NONE = ColourSearch.NONE;
    private static final int[] WRONG_K = {
        0, -1, -2, -12, -31, -32, -255, -256, 13, 14, 31, 32, 33, 44, 64, 65, 256, 257, 65537, 1 << 30, Integer.MAX_VALUE,
        Integer.MIN_VALUE, Integer.MIN_VALUE + 1,
    };
    private static final long[] FAR_K = {
        Long.MIN_VALUE, Long.MIN_VALUE + 1, -(1L << 32) - 1, -(1L << 32), -4097, -13, -12, -2, -1, 0, 1, 8, 9, 12, 13, 40,
        4096, Integer.MAX_VALUE, 1L << 31, 1L << 32, (1L << 32) + 3, Long.MAX_VALUE - 1, Long.MAX_VALUE,
    };

    private final Check check = new Check();

    public static void main(String[] args) {
        BoundariesColourTest test = new BoundariesColourTest();
        test.least();
        test.even();
        test.colour();
        test.waysAndCoefficients();
        test.check.end();
    }

    private void least() {
        leastWithoutNodes();
        leastWithoutArcs();
        leastOfTheMost();
        leastTellsTheFirst();
        leastAfterTheNetChanged();
    }

    private void even() {
        evenWithKTooSmallOrTooLarge();
        evenRefusedLeavesAll();
        evenWithOne();
        evenWithTwelve();
        evenWithMoreThanNodes();
        evenDifferingByOneAtMost();
        evenWithoutNodes();
        evenZeroTellsNone();
        evenTellsTheFirst();
    }

    private void colour() {
        colourOfNoSuchNode();
        colourBeforeAnyIsAsked();
        colourOfANodeOfNow();
        colourByTheLatest();
        colourStays();
    }

    private void waysAndCoefficients() {
        waysWithoutNodes();
        waysBelowNone();
        waysBelowOne();
        waysBelowLess();
        waysOfAnyK();
        waysWrap();
        coefficientOutside();
        coefficientAtTheEnds();
        coefficientOfNothing();
        coefficientOfNow();
    }

    private void leastWithoutNodes() {
        check.at("promise 5: THE LEAST is 0 without NODES");
        ColourSearch x = new ColourSearch();
        check.same("least", x.least(), 0);
        check.same("least again", x.least(), 0);
        check.same("colour(0)", x.colour(0), NONE);
        x.node();
        check.same("colour(0) of a node of now", x.colour(0), NONE);
        check.same("least", x.least(), 1);
        check.same("colour(0)", x.colour(0), 0);
        x.clear();
        check.same("least after clear", x.least(), 0);
    }

    private void leastWithoutArcs() {
        check.at("promise 5: THE LEAST without ARCS");
        check.same("least of one", Nets.nodes(1).least(), 1);
        ColourSearch x = Nets.nodes(12);
        check.same("least of twelve", x.least(), 1);
        check.colours(x, 0, 0, 0, 0, 0, 0, 0, 0, 0, 0, 0, 0, NONE);
    }

    private void leastOfTheMost() {
        check.at("promise 5: THE LEAST of nets with the most ARCS");
        ColourSearch x = Nets.complete(9, 12);
        check.same("least", x.least(), 9);
        check.colours(x, 0, 1, 2, 3, 4, 5, 6, 7, 8, 0, 0, 0, NONE);
        Nets.join(x, 9, 8, 10, 8, 11, 8, 9, 0);
        check.same("told(1)", x.told(1), 40);
        check.same("least", x.least(), 9);
        check.colours(x, 0, 1, 2, 3, 4, 5, 6, 7, 8, 1, 0, 0);
        ColourSearch late = Nets.nodes(12);
        for (int a = 11; a > 2; a--) {
            for (int b = 3; b < a; b++) {
                late.arc(a, b);
            }
        }
        check.same("least of the last nine", late.least(), 9);
        check.colours(late, 0, 0, 0, 0, 1, 2, 3, 4, 5, 6, 7, 8);
        ColourSearch full = Nets.full();
        check.same("least of forty", full.least(), 6);
        check.colours(full, 0, 1, 2, 3, 4, 5, 5, 4, 4, 4, 4, 4);
    }

    private void leastTellsTheFirst() {
        check.at("promise 5: THE FIRST COLOURING with COLOURS below it, not above");
        ColourSearch x = Nets.net(6, 0, 3, 0, 5, 1, 2, 1, 4, 2, 5, 3, 4);
        check.same("greedy(0) uses more", x.greedy(0), 3);
        check.same("least", x.least(), 2);
        check.colours(x, 0, 1, 0, 1, 0, 1);
        ColourSearch parts = Nets.net(6, 5, 0, 4, 1, 3, 2);
        check.same("least of pairs", parts.least(), 2);
        check.colours(parts, 0, 0, 0, 1, 1, 1);
    }

    private void leastAfterTheNetChanged() {
        check.at("promise 5: THE LEAST of the net of now");
        ColourSearch x = Nets.ring(3);
        check.same("least", x.least(), 3);
        x.drop();
        check.same("least after drop", x.least(), 2);
        check.colours(x, 0, 1, 0);
        Nets.dropAll(x);
        check.same("least without arcs", x.least(), 1);
        check.colours(x, 0, 0, 0);
    }

    private void evenWithKTooSmallOrTooLarge() {
        check.at("promise 6: NONE when k is not 1 to 12");
        for (int count : new int[] {0, 1, 5, 12}) {
            ColourSearch x = Nets.nodes(count);
            for (int wrong : WRONG_K) {
                check.same("even(" + wrong + ") of " + count, x.even(wrong), NONE);
            }
            for (int k = 1; k <= 12; k++) {
                check.same("even(" + k + ") of " + count, x.even(k), 1);
            }
        }
    }

    private void evenRefusedLeavesAll() {
        check.at("promise 6: NONE (all stays)");
        ColourSearch x = Nets.net(3, 0, 1, 1, 2);
        x.even(0);
        check.colours(x, NONE, NONE, NONE);
        x.least();
        x.even(13);
        check.colours(x, 0, 1, 0);
        x.even(3);
        x.even(0);
        check.colours(x, 0, 1, 2);
        x.even(1);
        x.even(-1);
        check.colours(x, NONE, NONE, NONE);
        x.list(0, 1 << 11);
        x.lists();
        x.even(14);
        check.colours(x, 11, 0, 1);
    }

    private void evenWithOne() {
        check.at("promise 6: k is 1");
        ColourSearch x = Nets.nodes(12);
        check.same("even(1) without arcs", x.even(1), 1);
        check.colours(x, 0, 0, 0, 0, 0, 0, 0, 0, 0, 0, 0, 0, NONE);
        x.arc(10, 11);
        check.same("even(1) with one", x.even(1), 0);
        check.colours(x, NONE, NONE, NONE, NONE, NONE, NONE, NONE, NONE, NONE, NONE, NONE, NONE);
        check.same("even(1) of one node", Nets.nodes(1).even(1), 1);
    }

    private void evenWithTwelve() {
        check.at("promise 6: k is 12");
        ColourSearch full = Nets.full();
        check.same("even(12)", full.even(12), 1);
        check.colours(full, 0, 1, 2, 3, 4, 5, 6, 7, 8, 9, 10, 11, NONE);
        ColourSearch loose = Nets.nodes(12);
        check.same("even(12) without arcs", loose.even(12), 1);
        check.colours(loose, 0, 1, 2, 3, 4, 5, 6, 7, 8, 9, 10, 11);
        ColourSearch one = Nets.nodes(1);
        check.same("even(12) of one", one.even(12), 1);
        check.colours(one, 0, NONE);
    }

    private void evenWithMoreThanNodes() {
        check.at("promise 6: more COLOURS than NODES: those that none has count too");
        ColourSearch x = Nets.nodes(2);
        check.same("even(3)", x.even(3), 1);
        check.colours(x, 0, 1);
        check.same("even(2)", x.even(2), 1);
        check.colours(x, 0, 1);
        ColourSearch eleven = Nets.nodes(11);
        check.same("even(12) of eleven", eleven.even(12), 1);
        check.colours(eleven, 0, 1, 2, 3, 4, 5, 6, 7, 8, 9, 10, NONE);
        check.same("even(11) of eleven", eleven.even(11), 1);
        check.colours(eleven, 0, 1, 2, 3, 4, 5, 6, 7, 8, 9, 10, NONE);
        check.same("even(10) of eleven", eleven.even(10), 1);
        check.colours(eleven, 0, 0, 1, 2, 3, 4, 5, 6, 7, 8, 9, NONE);
    }

    private void evenDifferingByOneAtMost() {
        check.at("promise 6: the numbers differing by 1 at most");
        ColourSearch one = Nets.star(2);
        check.same("even(2), by 1", one.even(2), 1);
        check.colours(one, 0, 1, 1);
        ColourSearch two = Nets.star(3);
        check.same("even(2), by 2", two.even(2), 0);
        check.same("even(3), by 1", two.even(3), 1);
        check.colours(two, 0, 1, 1, 2);
        ColourSearch sides = Nets.twoSides(2, 4, 6);
        check.same("even(2), 2 and 4", sides.even(2), 0);
        check.same("even(3), 2, 2 and 2", sides.even(3), 1);
        check.colours(sides, 0, 0, 1, 1, 2, 2);
        ColourSearch alike = Nets.twoSides(3, 3, 6);
        check.same("even(2), 3 and 3", alike.even(2), 1);
        check.same("even(3), 3, 2 and 1", alike.even(3), 0);
        check.same("even(4)", alike.even(4), 1);
        check.colours(alike, 0, 0, 1, 2, 2, 3);
        ColourSearch big = Nets.star(11);
        check.same("even(6) of a star", big.even(6), 0);
        check.same("even(7) of a star", big.even(7), 1);
        check.colours(big, 0, 1, 1, 2, 2, 3, 3, 4, 4, 5, 5, 6);
    }

    private void evenWithoutNodes() {
        check.at("promise 6: without NODES there is one");
        ColourSearch x = new ColourSearch();
        for (int k = 1; k <= 12; k++) {
            check.same("even(" + k + ")", x.even(k), 1);
        }
        check.same("colour(0)", x.colour(0), NONE);
        x.node();
        check.same("colour(0) of a node of now", x.colour(0), NONE);
    }

    private void evenZeroTellsNone() {
        check.at("promise 6: 0 (colour() tells NONE)");
        ColourSearch x = Nets.ring(3);
        x.least();
        check.same("even(2)", x.even(2), 0);
        check.colours(x, NONE, NONE, NONE, NONE);
        check.same("even(3)", x.even(3), 1);
        check.colours(x, 0, 1, 2, NONE);
        check.same("even(1)", x.even(1), 0);
        check.colours(x, NONE, NONE, NONE, NONE);
    }

    private void evenTellsTheFirst() {
        check.at("promise 6: 1 (colour() tells THE FIRST then)");
        ColourSearch x = Nets.nodes(5);
        check.same("even(2)", x.even(2), 1);
        check.colours(x, 0, 0, 0, 1, 1);
        check.same("even(3)", x.even(3), 1);
        check.colours(x, 0, 0, 1, 1, 2);
        x.arc(0, 1);
        check.same("even(2)", x.even(2), 1);
        check.colours(x, 0, 1, 0, 0, 1);
        x.arc(3, 4);
        check.same("even(2)", x.even(2), 1);
        check.colours(x, 0, 1, 0, 0, 1);
        x.arc(2, 3);
        check.same("even(2)", x.even(2), 1);
        check.colours(x, 0, 1, 0, 1, 0);
    }

    private void colourOfNoSuchNode() {
        check.at("promise 7: NONE without: no such NODE");
        for (int count : new int[] {0, 1, 12}) {
            ColourSearch x = Nets.nodes(count);
            x.least();
            for (int wrong : Nets.WRONG_NODES) {
                check.same("colour(" + wrong + ") of " + count, x.colour(wrong), NONE);
            }
            check.same("colour(" + count + ")", x.colour(count), NONE);
            check.same("colour(" + (count - 1) + ")", x.colour(count - 1), count == 0 ? NONE : 0);
        }
    }

    private void colourBeforeAnyIsAsked() {
        check.at("promise 7: NONE without: none was asked");
        ColourSearch x = Nets.path(12);
        x.ways(3);
        x.listed();
        x.why();
        x.arcs();
        x.clique();
        x.apart();
        x.chordal();
        x.greedy(0);
        x.even(0);
        Nets.putAll(x, 1, 1, 1);
        check.colours(x, NONE, NONE, NONE, NONE, NONE, NONE, NONE, NONE, NONE, NONE, NONE, NONE);
    }

    private void colourOfANodeOfNow() {
        check.at("promise 7: a NODE of now that was not there then has NONE");
        ColourSearch x = Nets.nodes(1);
        x.least();
        x.node();
        check.colours(x, 0, NONE);
        x.even(2);
        x.node();
        check.colours(x, 0, 1, NONE);
        x.lists();
        x.node();
        check.colours(x, 0, 0, 0, NONE);
        x.least();
        check.colours(x, 0, 0, 0, 0, NONE);
    }

    private void colourByTheLatest() {
        check.at("promise 7: by the latest least(), even(), lists()");
        ColourSearch x = Nets.nodes(2);
        x.list(0, 0b100);
        x.list(1, 0b1000);
        x.lists();
        check.colours(x, 2, 3);
        x.least();
        check.colours(x, 0, 0);
        x.even(2);
        check.colours(x, 0, 1);
        x.lists();
        check.colours(x, 2, 3);
        x.even(2);
        check.colours(x, 0, 1);
        x.least();
        check.colours(x, 0, 0);
        x.list(0, 0);
        x.lists();
        check.colours(x, NONE, NONE);
        x.least();
        check.colours(x, 0, 0);
    }

    private void colourStays() {
        check.at("promise 7: what was told stays till the same is asked again");
        ColourSearch x = Nets.ring(3);
        x.least();
        Nets.dropAll(x);
        x.arc(0, 2);
        x.list(0, 0);
        x.put(0, 7);
        x.turn(0, 8);
        x.why();
        x.listed();
        x.ways(2);
        x.greedy(2);
        x.chordal();
        x.arcs();
        check.colours(x, 0, 1, 2, NONE);
    }

    private void waysWithoutNodes() {
        check.at("promise 8: without NODES");
        for (long k : FAR_K) {
            check.same("ways(" + k + ")", new ColourSearch().ways(k), 1);
        }
    }

    private void waysBelowNone() {
        check.at("promise 8: k is 0");
        check.same("ways(0) of one", Nets.nodes(1).ways(0), 0);
        check.same("ways(0) of twelve", Nets.nodes(12).ways(0), 0);
        check.same("ways(0) of forty arcs", Nets.full().ways(0), 0);
    }

    private void waysBelowOne() {
        check.at("promise 8: k is 1");
        check.same("ways(1) of one", Nets.nodes(1).ways(1), 1);
        check.same("ways(1) of twelve", Nets.nodes(12).ways(1), 1);
        check.same("ways(1) with an arc", Nets.net(12, 11, 10).ways(1), 0);
    }

    private void waysBelowLess() {
        check.at("promise 8: for any k, as the polynomial tells it: k below 0");
        check.same("ways(-5) of one", Nets.nodes(1).ways(-5), -5);
        check.same("ways(-5) of two", Nets.nodes(2).ways(-5), 25);
        check.same("ways(-1) of a pair", Nets.net(2, 0, 1).ways(-1), 2);
        check.same("ways(-3) of a pair", Nets.net(2, 0, 1).ways(-3), 12);
        check.same("ways(-1) of three all near", Nets.ring(3).ways(-1), -6);
        check.same("ways(-1) of a ring of five", Nets.ring(5).ways(-1), -30);
    }

    private void waysOfAnyK() {
        check.at("promise 8: for any k, wrapping");
        ColourSearch nine = Nets.complete(9, 12);
        ColourSearch path = Nets.path(12);
        ColourSearch ring = Nets.ring(12);
        for (long k : FAR_K) {
            BigInteger x = BigInteger.valueOf(k);
            BigInteger less = x.subtract(BigInteger.ONE);
            BigInteger falling = x.pow(3);
            for (int i = 0; i < 9; i++) {
                falling = falling.multiply(x.subtract(BigInteger.valueOf(i)));
            }
            check.same("ways(" + k + ") of nine all near", nine.ways(k), falling.longValue());
            check.same("ways(" + k + ") of a path", path.ways(k), x.multiply(less.pow(11)).longValue());
            check.same("ways(" + k + ") of a ring", ring.ways(k), less.pow(12).add(less).longValue());
        }
    }

    private void waysWrap() {
        check.at("promise 8: wrapping");
        check.same("one, the least long", Nets.nodes(1).ways(Long.MIN_VALUE), Long.MIN_VALUE);
        check.same("one, the greatest long", Nets.nodes(1).ways(Long.MAX_VALUE), Long.MAX_VALUE);
        check.same("two, the least long", Nets.nodes(2).ways(Long.MIN_VALUE), 0);
        check.same("two, the greatest long", Nets.nodes(2).ways(Long.MAX_VALUE), 1);
        check.same("two, 2 to the 32", Nets.nodes(2).ways(1L << 32), 0);
        check.same("a pair, the greatest long", Nets.net(2, 0, 1).ways(Long.MAX_VALUE), Long.MIN_VALUE + 2);
        check.same("a pair, the least long", Nets.net(2, 0, 1).ways(Long.MIN_VALUE), Long.MIN_VALUE);
        check.same("twelve, 38 (the last that fits)", Nets.nodes(12).ways(38),
            BigInteger.valueOf(38).pow(12).longValueExact());
        check.same("twelve, 39", Nets.nodes(12).ways(39), BigInteger.valueOf(39).pow(12).longValue());
    }

    private void coefficientOutside() {
        check.at("promise 9: 0 when it has none such: too small, too large");
        for (int count : new int[] {0, 1, 4, 12}) {
            ColourSearch x = Nets.nodes(count);
            for (int wrong : Nets.WRONG_NODES) {
                if (wrong != 12) {
                    check.same("coefficient(" + wrong + ") of " + count, x.coefficient(wrong), 0);
                }
            }
            check.same("coefficient(" + (count + 1) + ")", x.coefficient(count + 1), 0);
            check.same("coefficient(" + count + ")", x.coefficient(count), 1);
            check.same("coefficient(-1)", x.coefficient(-1), 0);
        }
    }

    private void coefficientAtTheEnds() {
        check.at("promise 9: the first and the last power");
        ColourSearch full = Nets.full();
        check.same("coefficient(0)", full.coefficient(0), 0);
        check.same("coefficient(11) is the arcs", full.coefficient(11), -40);
        check.same("coefficient(12)", full.coefficient(12), 1);
        check.same("coefficient(13)", full.coefficient(13), 0);
        ColourSearch parts = Nets.net(4, 0, 1, 2, 3);
        check.same("coefficient(1) of two parts", parts.coefficient(1), 0);
        check.same("coefficient(2) of two parts", parts.coefficient(2), 1);
        check.same("coefficient(1) of nine all near", Nets.complete(9).coefficient(1), 40320);
        check.same("coefficient(1) of a path of twelve", Nets.path(12).coefficient(1), -1);
    }

    private void coefficientOfNothing() {
        check.at("promise 9: without NODES");
        ColourSearch x = new ColourSearch();
        check.same("coefficient(0)", x.coefficient(0), 1);
        check.same("coefficient(1)", x.coefficient(1), 0);
        check.same("coefficient(12)", x.coefficient(12), 0);
        check.same("coefficient(-1)", x.coefficient(-1), 0);
    }

    private void coefficientOfNow() {
        check.at("promise 9: in that polynomial: of the net of now");
        ColourSearch x = Nets.ring(3);
        check.same("coefficient(1)", x.coefficient(1), 2);
        x.drop();
        check.same("coefficient(1) after drop", x.coefficient(1), 1);
        x.node();
        check.same("coefficient(1) after node", x.coefficient(1), 0);
        check.same("coefficient(4) after node", x.coefficient(4), 1);
        x.arc(3, 0);
        check.same("coefficient(1) after arc", x.coefficient(1), -1);
        x.clear();
        check.same("coefficient(4) after clear", x.coefficient(4), 0);
        check.same("coefficient(0) after clear", x.coefficient(0), 1);
    }
}

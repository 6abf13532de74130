/** Boundary cases of lists and of colours of arcs (promises 10 to 15): a method for each sentence that names one. */
public final class BoundariesListTest {
    private static final int NONE = ColourSearch.NONE;
    private static final int ALL = 4095;

    private final Check check = new Check();

    public static void main(String[] args) {
        BoundariesListTest test = new BoundariesListTest();
        test.list();
        test.lists();
        test.why();
        test.arcs();
        test.shade();
        test.check.end();
    }

    private void list() {
        listsAreAllAtFirst();
        listOfNoSuchNode();
        listOfTheNextNode();
        listWithBitsBeyond();
        listWithTheLastColour();
        listWithoutColours();
        listTakesTheOldOnesPlace();
        listWithSeveralRefusals();
    }

    private void lists() {
        listsWithoutNodes();
        listsWhereThereIsOne();
        listsWhereThereIsNone();
        listsTellsTheFirst();
        listedWithoutNodes();
        listedOfTheMost();
        listedWhereThereIsNone();
        listedOfOne();
        listedByTheListsOfNow();
    }

    private void why() {
        whyWhereThereIsOne();
        whyWithoutNodes();
        whyOfAnEmptyList();
        whyLeavesOutTheLastFirst();
        whyWithAllNodes();
        whyChangesNothing();
    }

    private void arcs() {
        arcsWithoutArcs();
        arcsWithSixteen();
        arcsWithSeventeen();
        arcsRefusedLeavesAll();
        arcsWithGreatColours();
        arcsOfOneMoreThanNear();
        arcsTellsTheFirst();
    }

    private void shade() {
        shadeBeforeAny();
        shadeOfNoSuchArc();
        shadeOfAnArcOfNow();
        shadeOfADroppedArc();
        shadeByTheLatest();
        shadeStays();
    }

    private void listsAreAllAtFirst() {
        check.at("promise 10: LISTS: at first all");
        ColourSearch x = new ColourSearch();
        long due = 1;
        for (int v = 0; v < 12; v++) {
            x.node();
            due *= 12;
            check.same("listed with " + (v + 1), x.listed(), due);
        }
        ColourSearch one = Nets.nodes(1);
        one.list(0, 0);
        one.node();
        one.list(0, 1);
        check.same("listed with a node of now", one.listed(), 12);
    }

    private void listOfNoSuchNode() {
        check.at("promise 10: false when there is no such NODE");
        for (int count : new int[] {0, 1, 12}) {
            ColourSearch x = Nets.nodes(count);
            for (int wrong : Nets.WRONG_NODES) {
                check.same("list(" + wrong + ", 1) of " + count, x.list(wrong, 1), false);
            }
            check.same("list(" + count + ", 1)", x.list(count, 1), false);
            check.same("all", Nets.everything(x), Nets.everything(Nets.nodes(count)));
        }
    }

    private void listOfTheNextNode() {
        check.at("promise 10: false when there is no such NODE: it leaves nothing for the one to come");
        ColourSearch x = Nets.nodes(1);
        for (int v = 1; v < 12; v++) {
            check.same("list(" + v + ", 0)", x.list(v, 0), false);
        }
        Nets.addNodes(x, 11);
        check.same("listed", x.listed(), 8916100448256L);
        check.same("list(11, 0)", x.list(11, 0), true);
        check.same("listed", x.listed(), 0);
    }

    private void listWithBitsBeyond() {
        check.at("promise 10: false when there are bits beyond COLOUR 11");
        ColourSearch x = Nets.nodes(2);
        x.list(0, 0b110);
        for (int bit = 12; bit < 32; bit++) {
            check.same("list(0, bit " + bit + ")", x.list(0, 1 << bit), false);
            check.same("list(0, bits 0 and " + bit + ")", x.list(0, 1 << bit | 1), false);
        }
        for (int wrong : new int[] {-1, -2, -4096, 4096, 4097, 8191, Integer.MAX_VALUE, Integer.MIN_VALUE}) {
            check.same("list(0, " + wrong + ")", x.list(0, wrong), false);
            check.same("list(1, " + wrong + ")", x.list(1, wrong), false);
        }
        check.same("listed stays", x.listed(), 24);
        x.lists();
        check.colours(x, 1, 0);
    }

    private void listWithTheLastColour() {
        check.at("promise 10: bits of COLOURS: each of 0 to 11");
        ColourSearch x = Nets.nodes(12);
        for (int v = 0; v < 12; v++) {
            check.same("list(" + v + ", bit " + (11 - v) + ")", x.list(v, 1 << 11 - v), true);
        }
        check.same("lists", x.lists(), 1);
        check.colours(x, 11, 10, 9, 8, 7, 6, 5, 4, 3, 2, 1, 0);
        check.same("list(11, 4095)", x.list(11, ALL), true);
        check.same("listed", x.listed(), 12);
        check.same("list(11, 4094)", x.list(11, ALL - 1), true);
        check.same("listed", x.listed(), 11);
    }

    private void listWithoutColours() {
        check.at("promise 10: bits of COLOURS: none");
        ColourSearch x = Nets.nodes(1);
        check.same("list(0, 0)", x.list(0, 0), true);
        check.same("listed", x.listed(), 0);
        check.same("lists", x.lists(), 0);
        check.same("why", x.why(), 1);
    }

    private void listTakesTheOldOnesPlace() {
        check.at("promise 10: the LIST of a NODE is the latest");
        ColourSearch x = Nets.nodes(1);
        x.list(0, 0b11);
        x.list(0, 0b100);
        check.same("listed", x.listed(), 1);
        x.lists();
        check.colours(x, 2);
        check.same("list(0, 4095)", x.list(0, ALL), true);
        check.same("listed", x.listed(), 12);
    }

    private void listWithSeveralRefusals() {
        check.at("promise 10: false for both reasons at once");
        ColourSearch x = Nets.toldOf();
        check.same("list(5, 4096)", x.list(5, 4096), false);
        check.same("list(-1, -1)", x.list(-1, -1), false);
        check.same("list(12, -1)", x.list(12, Integer.MIN_VALUE), false);
        check.same("all", Nets.everything(x), Nets.everything(Nets.toldOf()));
    }

    private void listsWithoutNodes() {
        check.at("promise 11: without NODES there is one");
        ColourSearch x = new ColourSearch();
        check.same("lists", x.lists(), 1);
        check.same("colour(0)", x.colour(0), NONE);
        x.node();
        check.same("colour(0) of a node of now", x.colour(0), NONE);
    }

    private void listsWhereThereIsOne() {
        check.at("promise 11: 1: just one COLOURING BY LISTS");
        ColourSearch x = Nets.path(12);
        for (int v = 0; v < 12; v++) {
            x.list(v, v == 11 ? 1 << 11 : 0b11 << v);
        }
        Nets.join(x, 11, 9);
        x.list(10, 0b110000000000);
        x.list(9, 0b11000000000);
        check.same("lists", x.lists(), 1);
        check.colours(x, 0, 1, 2, 3, 4, 5, 6, 7, 8, 9, 10, 11, NONE);
        ColourSearch nine = Nets.complete(9);
        Nets.listAll(nine, 511);
        check.same("lists of nine with nine", nine.lists(), 1);
        check.colours(nine, 0, 1, 2, 3, 4, 5, 6, 7, 8, NONE);
    }

    private void listsWhereThereIsNone() {
        check.at("promise 11: 0 (colour() tells NONE)");
        ColourSearch x = Nets.net(3, 0, 1);
        x.lists();
        check.colours(x, 0, 1, 0);
        x.list(0, 1 << 11);
        x.list(1, 1 << 11);
        check.same("lists", x.lists(), 0);
        check.colours(x, NONE, NONE, NONE, NONE);
        ColourSearch nine = Nets.complete(9);
        Nets.listAll(nine, 255 << 4);
        check.same("lists of nine with eight", nine.lists(), 0);
        check.colours(nine, NONE, NONE, NONE, NONE, NONE, NONE, NONE, NONE, NONE);
        ColourSearch last = Nets.nodes(12);
        last.list(11, 0);
        check.same("lists with an empty one", last.lists(), 0);
        check.colours(last, NONE, NONE, NONE, NONE, NONE, NONE, NONE, NONE, NONE, NONE, NONE, NONE);
    }

    private void listsTellsTheFirst() {
        check.at("promise 11: 1 (colour() tells THE FIRST)");
        ColourSearch x = Nets.net(3, 0, 2, 1, 2);
        x.list(0, 0b011);
        x.list(1, 0b110);
        x.list(2, 0b001);
        check.same("lists: the last node takes the first's least", x.lists(), 1);
        check.colours(x, 1, 1, 0);
        x.list(2, 0b011);
        check.same("lists", x.lists(), 1);
        check.colours(x, 0, 2, 1);
        x.list(1, 0b010);
        check.same("lists", x.lists(), 1);
        check.colours(x, 1, 1, 0);
    }

    private void listedWithoutNodes() {
        check.at("promise 12: without NODES");
        ColourSearch x = new ColourSearch();
        check.same("listed", x.listed(), 1);
        x.node();
        x.list(0, 0);
        x.clear();
        check.same("listed after clear", x.listed(), 1);
    }

    private void listedOfTheMost() {
        check.at("promise 12: the most that there can be");
        check.same("listed of twelve", Nets.nodes(12).listed(), 8916100448256L);
        ColourSearch x = Nets.nodes(12);
        x.arc(0, 11);
        check.same("listed of twelve with an arc", x.listed(), 8916100448256L / 12 * 11);
        check.same("listed of a star", Nets.star(11).listed(), 12 * 285311670611L);
        check.same("listed is ways(12)", Nets.full().listed(), Nets.full().ways(12));
        check.same("listed of a ring is ways(12)", Nets.ring(12).listed(), 3138428376721L + 11);
    }

    private void listedWhereThereIsNone() {
        check.at("promise 12: none");
        ColourSearch x = Nets.nodes(12);
        x.list(11, 0);
        check.same("listed with an empty list", x.listed(), 0);
        ColourSearch pair = Nets.net(2, 0, 1);
        pair.list(0, 1 << 11);
        pair.list(1, 1 << 11);
        check.same("listed of near ones with one colour", pair.listed(), 0);
        ColourSearch ring = Nets.ring(11);
        Nets.listAll(ring, 0b11);
        check.same("listed of an odd ring with two", ring.listed(), 0);
    }

    private void listedOfOne() {
        check.at("promise 12: just one, and two");
        ColourSearch x = Nets.nodes(12);
        Nets.listAll(x, 1 << 11);
        check.same("listed", x.listed(), 1);
        ColourSearch ring = Nets.ring(12);
        Nets.listAll(ring, 0b100000000001);
        check.same("listed of an even ring with two", ring.listed(), 2);
        ring.list(7, 1);
        check.same("listed with one told", ring.listed(), 1);
    }

    private void listedByTheListsOfNow() {
        check.at("promise 12: by the LISTS of now");
        ColourSearch x = Nets.ring(12);
        x.list(0, 1);
        check.same("listed with one told", x.listed(), 261535698061L);
        x.list(0, ALL);
        check.same("listed with all", x.listed(), 261535698061L * 12);
        x.list(5, 0);
        check.same("listed with an empty one", x.listed(), 0);
        x.list(5, 1 << 11);
        check.same("listed with another told", x.listed(), 261535698061L);
    }

    private void whyWhereThereIsOne() {
        check.at("promise 13: 0 when there is one");
        ColourSearch x = Nets.complete(9, 12);
        check.same("why", x.why(), 0);
        Nets.listAll(x, 511);
        check.same("why with nine", x.why(), 0);
        Nets.listAll(x, 255);
        check.same("why with eight", x.why(), 511);
        x.drop();
        check.same("why with eight and an arc fewer", x.why(), 0);
    }

    private void whyWithoutNodes() {
        check.at("promise 13: 0 when there is one: without NODES");
        ColourSearch x = new ColourSearch();
        check.same("why", x.why(), 0);
        x.node();
        x.list(0, 0);
        check.same("why", x.why(), 1);
        x.clear();
        check.same("why after clear", x.why(), 0);
    }

    private void whyOfAnEmptyList() {
        check.at("promise 13: one NODE is left");
        for (int v = 0; v < 12; v++) {
            ColourSearch x = Nets.full();
            x.list(v, 0);
            check.same("why", x.why(), 1 << v);
        }
    }

    private void whyLeavesOutTheLastFirst() {
        check.at("promise 13: NODES are left out, from the last to the first");
        ColourSearch x = Nets.nodes(12);
        x.list(0, 0);
        x.list(11, 0);
        check.same("why of two empty lists", x.why(), 1);
        ColourSearch pairs = Nets.net(12, 0, 11, 1, 10, 2, 3);
        Nets.listAll(pairs, 1);
        check.same("why of three pairs", pairs.why(), 0b1100);
        pairs.list(3, 2);
        check.same("why of two pairs", pairs.why(), 1 << 1 | 1 << 10);
        pairs.list(10, 2);
        check.same("why of the last pair", pairs.why(), 1 | 1 << 11);
        pairs.list(11, 2);
        check.same("why of no pair", pairs.why(), 0);
    }

    private void whyWithAllNodes() {
        check.at("promise 13: each if those that are left still have none: all stay");
        ColourSearch x = Nets.wheel();
        Nets.listAll(x, 0b111);
        check.same("why", x.why(), 4095);
        ColourSearch ring = Nets.ring(11);
        Nets.listAll(ring, 0b101);
        check.same("why of an odd ring", ring.why(), 2047);
        ring.node();
        check.same("why with a node alone", ring.why(), 2047);
    }

    private void whyChangesNothing() {
        check.at("promise 13: NODES are left out to tell, they stay in the net");
        ColourSearch x = Nets.toldOf();
        ColourSearch twin = Nets.toldOf();
        x.list(1, 0);
        twin.list(1, 0);
        check.same("why", x.why(), 2);
        check.same("all", Nets.everything(x), Nets.everything(twin));
    }

    private void arcsWithoutArcs() {
        check.at("promise 14: without ARCS");
        check.same("arcs without nodes", new ColourSearch().arcs(), 0);
        ColourSearch x = Nets.nodes(12);
        check.same("arcs", x.arcs(), 0);
        check.shades(x, NONE, NONE);
        x.arc(0, 1);
        check.same("arcs of one", x.arcs(), 1);
        check.shades(x, 0, NONE);
        x.drop();
        check.same("arcs after drop", x.arcs(), 0);
    }

    private void arcsWithSixteen() {
        check.at("promise 14: 16 ARCS are not more than 16");
        ColourSearch x = Nets.twoSides(4, 4, 12);
        check.same("told(1)", x.told(1), 16);
        check.same("arcs", x.arcs(), 4);
        check.shades(x, 0, 1, 2, 3, 1, 0, 3, 2, 2, 3, 0, 1, 3, 2, 1, 0, NONE);
    }

    private void arcsWithSeventeen() {
        check.at("promise 14: IllegalStateException: there are more than 16 ARCS");
        ColourSearch x = Nets.twoSides(4, 4, 12);
        for (int i = 8; i < 11; i++) {
            x.arc(i, i + 1);
            check.same("arcs with " + x.told(1) + " throws", Nets.arcsThrows(x), true);
            check.same("arcs throws again", Nets.arcsThrows(x), true);
        }
        check.same("arcs with forty throws", Nets.arcsThrows(Nets.full()), true);
        Nets.join(x, 0, 1);
        x.drop();
        x.drop();
        x.drop();
        check.same("arcs with 17 throws", Nets.arcsThrows(x), true);
        x.drop();
        check.same("arcs with 16 throws", Nets.arcsThrows(x), false);
        check.same("arcs", x.arcs(), 4);
        x.arc(8, 9);
        x.clear();
        check.same("arcs after clear throws", Nets.arcsThrows(x), false);
    }

    private void arcsRefusedLeavesAll() {
        check.at("promise 14: it changes nothing when it throws");
        ColourSearch x = Nets.net(7, 0, 1, 1, 2, 2, 0);
        ColourSearch twin = Nets.net(7, 0, 1, 1, 2, 2, 0);
        for (ColourSearch one : new ColourSearch[] {x, twin}) {
            one.arcs();
            one.lists();
            one.greedy(0);
            one.chordal();
            one.put(1, 4);
            Nets.join(one, 3, 0, 3, 1, 3, 2, 4, 0, 4, 1, 4, 2, 4, 3, 5, 0, 5, 1, 5, 2, 5, 3, 5, 4, 6, 0, 6, 1);
        }
        check.same("told(1)", x.told(1), 17);
        check.same("arcs throws", Nets.arcsThrows(x), true);
        check.shades(x, 0, 1, 2, NONE);
        check.same("all", Nets.everything(x), Nets.everything(twin));
    }

    private void arcsWithGreatColours() {
        check.at("promise 14: a COLOUR (0 or above, no matter how great)");
        ColourSearch x = Nets.star(11);
        check.same("arcs of a star", x.arcs(), 11);
        check.shades(x, 0, 1, 2, 3, 4, 5, 6, 7, 8, 9, 10, NONE);
        Nets.join(x, 1, 2, 3, 4, 5, 6, 7, 8, 9, 10);
        check.same("arcs of a star with five more", x.arcs(), 11);
        check.shades(x, 0, 1, 2, 3, 4, 5, 6, 7, 8, 9, 10, 2, 0, 0, 0, 0, NONE);
    }

    private void arcsOfOneMoreThanNear() {
        check.at("promise 14: the LEAST is above the most NEAR ones at times");
        check.same("arcs of three all near", Nets.ring(3).arcs(), 3);
        check.same("arcs of four all near", Nets.complete(4).arcs(), 3);
        check.same("arcs of five all near", Nets.complete(5).arcs(), 5);
        check.same("arcs of six all near", Nets.complete(6).arcs(), 5);
        ColourSearch petersen = Nets.net(10, 0, 1, 1, 2, 2, 3, 3, 4, 4, 0, 0, 5, 1, 6, 2, 7, 3, 8, 4, 9, 5, 7, 7, 9, 9, 6,
            6, 8, 8, 5);
        check.same("arcs of three by three", Nets.twoSides(3, 3, 6).arcs(), 3);
        check.same("told(1)", petersen.told(1), 15);
        check.same("arcs where three do not do", petersen.arcs(), 4);
    }

    private void arcsTellsTheFirst() {
        check.at("promise 14: THE FIRST with COLOURS below it, by ARCS");
        ColourSearch x = Nets.net(5, 0, 1, 2, 3, 3, 4, 1, 2);
        check.same("arcs", x.arcs(), 2);
        check.shades(x, 0, 0, 1, 1);
        ColourSearch late = Nets.net(6, 0, 1, 4, 5, 1, 2, 3, 4, 2, 3);
        check.same("arcs of a path told from both ends", late.arcs(), 2);
        check.shades(late, 0, 0, 1, 1, 0);
        ColourSearch odd = Nets.net(5, 0, 1, 3, 4, 1, 2, 2, 3);
        check.same("arcs of a shorter one", odd.arcs(), 2);
        check.shades(odd, 0, 1, 1, 0);
    }

    private void shadeBeforeAny() {
        check.at("promise 15: NONE without: arcs() was not asked");
        ColourSearch x = Nets.ring(5);
        x.least();
        x.lists();
        x.greedy(0);
        check.shades(x, NONE, NONE, NONE, NONE, NONE, NONE);
        ColourSearch many = Nets.full();
        Nets.arcsThrows(many);
        check.shades(many, NONE, NONE, NONE);
        check.same("shade(39)", many.shade(39), NONE);
    }

    private void shadeOfNoSuchArc() {
        check.at("promise 15: NONE without: no such ARC");
        for (int count : new int[] {0, 2, 12}) {
            ColourSearch x = Nets.path(count);
            x.arcs();
            for (int wrong : Nets.WRONG_ARCS) {
                check.same("shade(" + wrong + ")", x.shade(wrong), NONE);
            }
            for (int i = Math.max(0, count - 1); i < 40; i++) {
                check.same("shade(" + i + ")", x.shade(i), NONE);
            }
        }
        ColourSearch full = Nets.full();
        for (int wrong : Nets.WRONG_ARCS) {
            check.same("shade(" + wrong + ")", full.shade(wrong), NONE);
        }
    }

    private void shadeOfAnArcOfNow() {
        check.at("promise 15: an ARC of now that was not there then has NONE");
        ColourSearch x = Nets.net(4, 0, 1, 1, 2);
        x.arcs();
        x.arc(2, 3);
        check.shades(x, 0, 1, NONE, NONE);
        x.drop();
        x.drop();
        x.arc(0, 3);
        check.shades(x, 0, NONE, NONE);
        x.drop();
        x.arc(1, 2);
        check.shades(x, 0, NONE, NONE);
        x.arcs();
        check.shades(x, 0, 1, NONE);
    }

    private void shadeOfADroppedArc() {
        check.at("promise 15: NONE without: the ARC is gone");
        ColourSearch x = Nets.path(4);
        x.arcs();
        check.shades(x, 0, 1, 0, NONE);
        x.drop();
        check.shades(x, 0, 1, NONE, NONE);
        x.drop();
        x.drop();
        check.shades(x, NONE, NONE, NONE, NONE);
    }

    private void shadeByTheLatest() {
        check.at("promise 15: by the latest arcs()");
        ColourSearch x = Nets.path(4);
        x.arcs();
        x.drop();
        x.drop();
        check.same("arcs", x.arcs(), 1);
        Nets.join(x, 1, 2, 2, 3);
        check.shades(x, 0, NONE, NONE, NONE);
        x.arcs();
        check.shades(x, 0, 1, 0, NONE);
        Nets.dropAll(x);
        x.arcs();
        Nets.join(x, 0, 1);
        check.shades(x, NONE, NONE);
    }

    private void shadeStays() {
        check.at("promise 15: what was told stays till the same is asked again");
        ColourSearch x = Nets.ring(3);
        x.arcs();
        x.node();
        x.arc(3, 0);
        x.least();
        x.even(4);
        x.lists();
        x.clique();
        x.chordal();
        x.greedy(1);
        x.put(0, 1);
        check.shades(x, 0, 1, 2, NONE);
    }
}

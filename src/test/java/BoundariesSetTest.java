/** Boundary cases of cliques, sets apart, taking apart and greedy (promises 16 to 22): a method for each sentence. */
public final class BoundariesSetTest {
    private static final int NONE = ColourSearch.NONE;

    private final Check check = new Check();

    public static void main(String[] args) {
        BoundariesSetTest test = new BoundariesSetTest();
        test.sets();
        test.takingApart();
        test.greedy();
        test.tint();
        test.check.end();
    }

    private void sets() {
        cliqueWithoutNodes();
        cliqueOfOneNode();
        cliqueOfTheMost();
        cliqueOfSeveral();
        apartWithoutNodes();
        apartOfAll();
        apartOfOneNode();
        apartOfSeveral();
    }

    private void takingApart() {
        chordalWithoutNodes();
        chordalWithoutArcs();
        chordalOfRings();
        chordalTakesTheLowest();
        takenOutside();
        takenBeforeAny();
        takenWhereNoneWasTaken();
        takenByTheLatest();
        leftBeforeAny();
        leftOfAll();
        leftByTheLatest();
    }

    private void greedy() {
        greedyInAnotherOrder();
        greedyRefusedLeavesAll();
        greedyWithoutNodes();
        greedyWithoutArcs();
        greedyOfTheMost();
        greedyByNumbers();
        greedyByMostNearOfLikeOnes();
        greedyByTakingAwayOfLikeOnes();
        greedyByColoursOfLikeOnes();
    }

    private void tint() {
        tintBeforeAny();
        tintOfNoSuchNode();
        tintOfANodeOfNow();
        tintByTheLatestThatWasNotNone();
        tintStays();
    }

    private void cliqueWithoutNodes() {
        check.at("promise 16: without NODES");
        ColourSearch x = Nets.nodes(3);
        x.clear();
        check.same("clique", new ColourSearch().clique(), 0);
        check.same("clique after clear", x.clique(), 0);
    }

    private void cliqueOfOneNode() {
        check.at("promise 16: no ARCS: one NODE is a CLIQUE, of several the lowest");
        check.same("clique of one", Nets.nodes(1).clique(), 1);
        check.same("clique of twelve", Nets.nodes(12).clique(), 1);
        ColourSearch pair = Nets.net(12, 11, 10);
        check.same("clique of the last pair", pair.clique(), 1 << 10 | 1 << 11);
        pair.drop();
        check.same("clique after drop", pair.clique(), 1);
    }

    private void cliqueOfTheMost() {
        check.at("promise 16: with the most NODES");
        check.same("clique of nine all near", Nets.complete(9, 12).clique(), 511);
        ColourSearch late = Nets.nodes(12);
        for (int a = 3; a < 12; a++) {
            for (int b = 3; b < a; b++) {
                late.arc(a, b);
            }
        }
        Nets.join(late, 0, 1, 1, 2, 2, 0);
        check.same("clique of the last nine", late.clique(), 4095 - 7);
        check.same("clique of forty arcs", Nets.full().clique(), 0b111111);
    }

    private void cliqueOfSeveral() {
        check.at("promise 16: of several the one that has the lowest NODE in which it and another differ");
        check.same("clique of two pairs", Nets.net(4, 1, 2, 0, 3).clique(), 0b1001);
        check.same("clique of two pairs with a node in common", Nets.net(3, 0, 2, 0, 1).clique(), 0b11);
        check.same("clique of a ring", Nets.ring(12).clique(), 0b11);
        ColourSearch x = Nets.net(12, 1, 2, 2, 3, 3, 1, 0, 10, 10, 11, 11, 0);
        check.same("clique of two threes", x.clique(), 1 | 1 << 10 | 1 << 11);
        x.drop();
        check.same("clique of the other", x.clique(), 0b1110);
        check.same("clique of two threes with two in common", Nets.net(4, 0, 1, 0, 2, 0, 3, 2, 1, 2, 3).clique(), 0b111);
    }

    private void apartWithoutNodes() {
        check.at("promise 17: without NODES");
        ColourSearch x = Nets.nodes(3);
        x.clear();
        check.same("apart", new ColourSearch().apart(), 0);
        check.same("apart after clear", x.apart(), 0);
    }

    private void apartOfAll() {
        check.at("promise 17: no ARCS: all NODES");
        check.same("apart of one", Nets.nodes(1).apart(), 1);
        check.same("apart of twelve", Nets.nodes(12).apart(), 4095);
        check.same("apart of twelve but one", Nets.net(12, 0, 11).apart(), 2047);
    }

    private void apartOfOneNode() {
        check.at("promise 17: all NEAR: one NODE, the lowest");
        check.same("apart of a pair", Nets.net(2, 1, 0).apart(), 1);
        check.same("apart of nine all near", Nets.complete(9).apart(), 1);
    }

    private void apartOfSeveral() {
        check.at("promise 17: of several the one that has the lowest NODE in which it and another differ");
        check.same("apart of a ring", Nets.ring(12).apart(), 0b010101010101);
        check.same("apart of an odd ring", Nets.ring(11).apart(), 0b00101010101);
        check.same("apart of a path", Nets.path(4).apart(), 0b101);
        check.same("apart of a star: the most", Nets.star(11).apart(), 4094);
        check.same("apart of two sides", Nets.twoSides(3, 3, 6).apart(), 0b111);
        check.same("apart of two sides: the most", Nets.twoSides(3, 4, 7).apart(), 0b1111000);
        check.same("apart of forty arcs", Nets.full().apart(), 4095 - 31);
    }

    private void chordalWithoutNodes() {
        check.at("promise 18: CHORDAL if none is left: without NODES");
        ColourSearch x = new ColourSearch();
        check.same("chordal", x.chordal(), 1);
        check.same("left", x.left(), 0);
        check.takes(x, NONE, NONE);
    }

    private void chordalWithoutArcs() {
        check.at("promise 18: a NODE without NEAR ones, and with one, is taken away");
        ColourSearch one = Nets.nodes(1);
        check.same("chordal of one", one.chordal(), 1);
        check.takes(one, 0, NONE);
        ColourSearch x = Nets.nodes(12);
        check.same("chordal of twelve", x.chordal(), 1);
        check.takes(x, 0, 1, 2, 3, 4, 5, 6, 7, 8, 9, 10, 11, NONE);
        ColourSearch pair = Nets.net(2, 0, 1);
        check.same("chordal of a pair", pair.chordal(), 1);
        check.takes(pair, 0, 1, NONE);
    }

    private void chordalOfRings() {
        check.at("promise 18: 1 when the net is CHORDAL, 0 when not");
        check.same("chordal of a ring of three", Nets.ring(3).chordal(), 1);
        for (int count = 4; count <= 12; count++) {
            ColourSearch x = Nets.ring(count);
            check.same("chordal of a ring of " + count, x.chordal(), 0);
            check.same("left", x.left(), (1 << count) - 1);
            x.drop();
            check.same("chordal of a path of " + count, x.chordal(), 1);
            check.same("left", x.left(), 0);
        }
        ColourSearch four = Nets.ring(4);
        four.arc(1, 3);
        check.same("chordal of four with an arc across", four.chordal(), 1);
        check.same("chordal of nine all near", Nets.complete(9, 12).chordal(), 1);
        check.same("chordal of forty arcs", Nets.full().chordal(), 1);
        check.same("chordal of a wheel", Nets.wheel().chordal(), 0);
    }

    private void chordalTakesTheLowest() {
        check.at("promise 18: again and again the lowest NODE, till there is none such");
        ColourSearch x = Nets.star(4);
        check.same("chordal", x.chordal(), 1);
        check.takes(x, 1, 2, 3, 0, 4, NONE);
        ColourSearch tail = Nets.net(6, 1, 2, 2, 3, 3, 4, 4, 1, 1, 0, 4, 5);
        check.same("chordal", tail.chordal(), 0);
        check.takes(tail, 0, 5, NONE);
        check.same("left", tail.left(), 0b11110);
    }

    private void takenOutside() {
        check.at("promise 19: NONE when there is none such: k too small, too large");
        ColourSearch x = Nets.nodes(12);
        x.chordal();
        check.same("taken(11)", x.taken(11), 11);
        for (int wrong : Nets.WRONG_NODES) {
            check.same("taken(" + wrong + ")", x.taken(wrong), NONE);
        }
        ColourSearch some = Nets.net(6, 1, 2, 2, 3, 3, 4, 4, 1, 1, 0, 4, 5);
        some.chordal();
        check.takes(some, 0, 5, NONE, NONE, NONE, NONE, NONE);
        for (int wrong : Nets.WRONG_NODES) {
            check.same("taken(" + wrong + ")", some.taken(wrong), NONE);
        }
    }

    private void takenBeforeAny() {
        check.at("promise 19: NONE when there is none such: chordal() was not asked");
        ColourSearch x = Nets.nodes(3);
        x.greedy(2);
        check.takes(x, NONE, NONE, NONE, NONE);
        x.chordal();
        check.takes(x, 0, 1, 2, NONE);
        x.clear();
        check.takes(x, NONE, NONE, NONE, NONE);
    }

    private void takenWhereNoneWasTaken() {
        check.at("promise 19: NONE when there is none such: none was taken away");
        ColourSearch x = Nets.ring(4);
        x.chordal();
        check.takes(x, NONE, NONE, NONE, NONE, NONE);
        ColourSearch empty = new ColourSearch();
        empty.chordal();
        empty.node();
        check.takes(empty, NONE, NONE);
    }

    private void takenByTheLatest() {
        check.at("promise 19: that the latest chordal() took away");
        ColourSearch x = Nets.path(4);
        x.chordal();
        check.takes(x, 0, 1, 2, 3, NONE);
        x.arc(3, 0);
        x.node();
        check.takes(x, 0, 1, 2, 3, NONE);
        x.chordal();
        check.takes(x, 4, NONE, NONE, NONE, NONE);
        x.arc(0, 2);
        check.takes(x, 4, NONE, NONE, NONE, NONE);
        x.chordal();
        check.takes(x, 1, 0, 2, 3, 4, NONE);
    }

    private void leftBeforeAny() {
        check.at("promise 20: chordal() was not asked");
        ColourSearch x = Nets.ring(4);
        check.same("left of a new one", new ColourSearch().left(), 0);
        check.same("left", x.left(), 0);
        x.chordal();
        x.clear();
        check.same("left after clear", x.left(), 0);
    }

    private void leftOfAll() {
        check.at("promise 20: what it left, as bits: all, or the last ones, or none");
        ColourSearch all = Nets.ring(12);
        all.chordal();
        check.same("left of a ring", all.left(), 4095);
        ColourSearch last = Nets.net(12, 8, 9, 9, 10, 10, 11, 11, 8, 0, 8);
        last.chordal();
        check.same("left of the last four", last.left(), 0b111100000000);
        ColourSearch none = Nets.full();
        none.chordal();
        check.same("left of forty arcs", none.left(), 0);
    }

    private void leftByTheLatest() {
        check.at("promise 20: what the latest chordal() left");
        ColourSearch x = Nets.ring(5);
        x.chordal();
        x.drop();
        x.node();
        x.least();
        x.greedy(2);
        x.put(0, 1);
        check.same("left stays", x.left(), 31);
        x.chordal();
        check.same("left", x.left(), 0);
        x.arc(0, 4);
        check.same("left stays", x.left(), 0);
        x.chordal();
        check.same("left", x.left(), 31);
    }

    private void greedyInAnotherOrder() {
        check.at("promise 21: NONE for another order than 0 to 3");
        for (int count : new int[] {0, 5}) {
            ColourSearch x = Nets.path(count);
            for (int wrong : Nets.WRONG_NODES) {
                check.same("greedy(" + wrong + ")", x.greedy(wrong), NONE);
            }
            check.same("greedy(4)", x.greedy(4), NONE);
            check.same("greedy(5)", x.greedy(5), NONE);
            for (int order = 0; order < 4; order++) {
                check.same("greedy(" + order + ")", x.greedy(order), count == 0 ? 0 : 2);
            }
        }
    }

    private void greedyRefusedLeavesAll() {
        check.at("promise 21: it changes nothing when it is NONE");
        ColourSearch x = Nets.toldOf();
        x.greedy(-1);
        x.greedy(4);
        check.same("all", Nets.everything(x), Nets.everything(Nets.toldOf()));
    }

    private void greedyWithoutNodes() {
        check.at("promise 21: how many COLOURS it uses: none without NODES");
        ColourSearch x = new ColourSearch();
        for (int order = 0; order < 4; order++) {
            check.same("greedy(" + order + ")", x.greedy(order), 0);
        }
        check.same("tint(0)", x.tint(0), NONE);
        x.node();
        check.same("tint(0) of a node of now", x.tint(0), NONE);
    }

    private void greedyWithoutArcs() {
        check.at("promise 21: how many COLOURS it uses: one without ARCS");
        for (int order = 0; order < 4; order++) {
            ColourSearch x = Nets.nodes(12);
            check.same("greedy(" + order + ")", x.greedy(order), 1);
            check.tints(x, 0, 0, 0, 0, 0, 0, 0, 0, 0, 0, 0, 0, NONE);
            check.same("greedy(" + order + ") of one", Nets.nodes(1).greedy(order), 1);
        }
    }

    private void greedyOfTheMost() {
        check.at("promise 21: how many COLOURS it uses: nine NODES all NEAR");
        for (int order = 0; order < 4; order++) {
            ColourSearch x = Nets.complete(9, 12);
            check.same("greedy(" + order + ")", x.greedy(order), 9);
            check.tints(x, 0, 1, 2, 3, 4, 5, 6, 7, 8, 0, 0, 0, NONE);
            check.same("greedy(" + order + ") of forty arcs", Nets.full().greedy(order), 6);
        }
    }

    private void greedyByNumbers() {
        check.at("promise 21: order 0 by numbers");
        ColourSearch pairs = Nets.net(12, 0, 1, 2, 3, 4, 5, 6, 7, 8, 9, 10, 11);
        Nets.join(pairs, 1, 2, 3, 4, 5, 6, 7, 8, 9, 10);
        check.same("greedy(0) of a path", pairs.greedy(0), 2);
        ColourSearch crown = Nets.net(8, 0, 3, 0, 5, 0, 7, 2, 1, 2, 5, 2, 7, 4, 1, 4, 3, 4, 7, 6, 1, 6, 3, 6, 5);
        check.same("greedy(0) uses more than the least", crown.greedy(0), 4);
        check.tints(crown, 0, 0, 1, 1, 2, 2, 3, 3);
        check.same("least", crown.least(), 2);
    }

    private void greedyByMostNearOfLikeOnes() {
        check.at("promise 21: order 1, the most NEAR first, of like ones by numbers");
        ColourSearch x = Nets.net(4, 0, 3, 3, 2, 2, 1);
        check.same("greedy(1)", x.greedy(1), 2);
        check.tints(x, 0, 1, 0, 1);
        ColourSearch ring = Nets.net(4, 0, 2, 2, 1, 1, 3, 3, 0);
        check.same("greedy(1) of a ring", ring.greedy(1), 2);
        check.tints(ring, 0, 0, 1, 1);
        ColourSearch last = Nets.net(12, 11, 0, 11, 1, 11, 2);
        check.same("greedy(1) of a star", last.greedy(1), 2);
        check.tints(last, 1, 1, 1, 0, 0, 0, 0, 0, 0, 0, 0, 0);
        ColourSearch six = Nets.net(6, 0, 3, 0, 5, 1, 2, 1, 4, 2, 5, 3, 4);
        check.same("greedy(1) where all are alike", six.greedy(1), 3);
        check.tints(six, 0, 0, 1, 1, 2, 2);
    }

    private void greedyByTakingAwayOfLikeOnes() {
        check.at("promise 21: order 2, the fewest NEAR ones that are left, of like ones the highest, the other way round");
        ColourSearch pair = Nets.net(2, 0, 1);
        pair.greedy(2);
        check.tints(pair, 0, 1);
        ColourSearch path = Nets.path(3);
        check.same("greedy(2) of a path", path.greedy(2), 2);
        check.tints(path, 0, 1, 0);
        ColourSearch four = Nets.path(4);
        check.same("greedy(2) of a path of four", four.greedy(2), 2);
        check.tints(four, 0, 1, 0, 1);
        ColourSearch star = Nets.star(3);
        check.same("greedy(2) of a star", star.greedy(2), 2);
        check.tints(star, 0, 1, 1, 1);
        ColourSearch late = Nets.net(3, 2, 0, 2, 1);
        check.same("greedy(2) of a star told last", late.greedy(2), 2);
        check.tints(late, 0, 0, 1);
    }

    private void greedyByColoursOfLikeOnes() {
        check.at("promise 21: order 3, the most different COLOURS, then the most NEAR ones in all, then the lowest");
        ColourSearch pair = Nets.net(2, 0, 1);
        pair.greedy(3);
        check.tints(pair, 0, 1);
        ColourSearch star = Nets.net(4, 3, 0, 3, 1, 3, 2);
        check.same("greedy(3): the most near at first", star.greedy(3), 2);
        check.tints(star, 1, 1, 1, 0);
        ColourSearch six = Nets.net(6, 0, 3, 0, 5, 1, 2, 1, 4, 2, 5, 3, 4);
        check.same("greedy(3): the most colours before the lowest", six.greedy(3), 2);
        check.tints(six, 0, 1, 0, 1, 0, 1);
        ColourSearch more = Nets.net(6, 0, 3, 0, 4, 0, 5, 1, 2, 1, 4, 1, 5, 2, 3);
        check.same("greedy(3): the most colours before the most near", more.greedy(3), 3);
        check.tints(more, 0, 1, 0, 1, 2, 2);
        ColourSearch parts = Nets.net(7, 0, 1, 1, 2, 3, 4, 4, 5, 5, 3, 6, 3);
        check.same("greedy(3) of two parts", parts.greedy(3), 3);
        check.tints(parts, 1, 0, 1, 0, 1, 2, 1);
    }

    private void tintBeforeAny() {
        check.at("promise 22: NONE without: greedy() was not asked, or was NONE");
        ColourSearch x = Nets.path(3);
        x.least();
        x.lists();
        check.tints(x, NONE, NONE, NONE);
        x.greedy(4);
        x.greedy(-1);
        check.tints(x, NONE, NONE, NONE);
    }

    private void tintOfNoSuchNode() {
        check.at("promise 22: NONE without: no such NODE");
        for (int count : new int[] {0, 1, 12}) {
            ColourSearch x = Nets.nodes(count);
            x.greedy(0);
            for (int wrong : Nets.WRONG_NODES) {
                check.same("tint(" + wrong + ") of " + count, x.tint(wrong), NONE);
            }
            check.same("tint(" + count + ")", x.tint(count), NONE);
            check.same("tint(" + (count - 1) + ")", x.tint(count - 1), count == 0 ? NONE : 0);
        }
    }

    private void tintOfANodeOfNow() {
        check.at("promise 22: a NODE of now that was not there then has NONE");
        for (int order = 0; order < 4; order++) {
            ColourSearch x = Nets.nodes(1);
            x.greedy(order);
            Nets.addNodes(x, 2);
            check.tints(x, 0, NONE, NONE);
            x.greedy(order);
            check.tints(x, 0, 0, 0, NONE);
        }
    }

    private void tintByTheLatestThatWasNotNone() {
        check.at("promise 22: by the latest greedy() that was not NONE");
        ColourSearch x = Nets.net(3, 2, 0, 2, 1);
        x.greedy(0);
        check.tints(x, 0, 0, 1);
        x.greedy(1);
        check.tints(x, 1, 1, 0);
        x.greedy(4);
        x.greedy(Integer.MIN_VALUE);
        check.tints(x, 1, 1, 0);
        x.greedy(2);
        check.tints(x, 0, 0, 1);
        x.greedy(3);
        check.tints(x, 1, 1, 0);
    }

    private void tintStays() {
        check.at("promise 22: what was told stays till the same is asked again");
        ColourSearch x = Nets.ring(3);
        x.greedy(0);
        Nets.dropAll(x);
        x.arc(0, 2);
        x.least();
        x.even(1);
        x.lists();
        x.chordal();
        x.put(0, 7);
        x.turn(0, 8);
        check.tints(x, 0, 1, 2, NONE);
    }
}

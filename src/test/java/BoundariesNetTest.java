/** Boundary cases of the net itself (promises 1 to 4, 27 and 28): a method for each sentence that names one. */
public final class BoundariesNetTest {
    private static final int NONE = ColourSearch.NONE;
    private static final int MOST_CALLS = 512;

    private final Check check = new Check();

    public static void main(String[] args) {
        BoundariesNetTest test = new BoundariesNetTest();
        test.head();
        test.nodesAndArcs();
        test.counts();
        test.clearing();
        test.check.end();
    }

    private void head() {
        noneIsMinusOne();
        allOfTheCallsAreAnswered();
        allOfTheChangesAreMade();
    }

    private void nodesAndArcs() {
        newObjectAnswersAsEmpty();
        newObjectRefuses();
        objectsAreApart();
        nodeWhenThereAreTwelve();
        arcWithoutNodes();
        arcWithoutSuchNode();
        arcWithTheNextNode();
        arcWithBothTheSame();
        arcWhereNear();
        arcWhenThereAreForty();
        arcWithSeveralRefusals();
        arcRefusedTakesNoNumber();
        dropWithoutArcs();
        dropTakesTheLast();
        dropDownFromForty();
    }

    private void counts() {
        toldOfNothing();
        toldOfAll();
        toldOfAnother();
        toldOfNear();
        toldOfParts();
        toldOfColoursInTheTry();
    }

    private void clearing() {
        clearOfNothing();
        clearOfAll();
        clearForgetsWhatWasTold();
        clearForgetsListsAndTheTry();
        clearThenAsNew();
    }

    private void noneIsMinusOne() {
        check.at("NONE is -1");
        check.same("NONE", ColourSearch.NONE, -1);
    }

    private void allOfTheCallsAreAnswered() {
        check.at("at most 512 calls: the last is answered like the first");
        ColourSearch x = Nets.full();
        // What full() has asked by now.
        int made = 63;
        long[] first = null;
        for (int calls = made; calls + 11 <= MOST_CALLS; calls += 11) {
            long[] now = {
                x.least(), x.even(9), x.ways(10), x.coefficient(3), x.lists(), x.listed(), x.why(), x.clique(), x.apart(),
                x.chordal(), x.greedy(3),
            };
            first = first == null ? now : first;
            for (int i = 0; i < now.length; i++) {
                check.same("call " + (calls + i), now[i], first[i]);
            }
        }
    }

    private void allOfTheChangesAreMade() {
        check.at("at most 512 calls: each change counts to the last");
        ColourSearch x = Nets.nodes(2);
        for (int calls = 2; calls + 6 <= MOST_CALLS; calls += 6) {
            check.same("arc(0, 1)", x.arc(0, 1), 0);
            check.same("ways(3) at call " + calls, x.ways(3), 6);
            check.same("listed", x.listed(), 132);
            check.same("drop", x.drop(), true);
            check.same("ways(3) at call " + calls, x.ways(3), 9);
            check.same("listed", x.listed(), 144);
        }
    }

    private void newObjectAnswersAsEmpty() {
        check.at("promise 1: no NODES: what there is to tell");
        check.same("least", new ColourSearch().least(), 0);
        check.same("even(1)", new ColourSearch().even(1), 1);
        check.same("ways(0)", new ColourSearch().ways(0), 1);
        check.same("coefficient(0)", new ColourSearch().coefficient(0), 1);
        check.same("lists", new ColourSearch().lists(), 1);
        check.same("listed", new ColourSearch().listed(), 1);
        check.same("why", new ColourSearch().why(), 0);
        check.same("arcs", new ColourSearch().arcs(), 0);
        check.same("clique", new ColourSearch().clique(), 0);
        check.same("apart", new ColourSearch().apart(), 0);
        check.same("chordal", new ColourSearch().chordal(), 1);
        check.same("left", new ColourSearch().left(), 0);
        check.same("faults", new ColourSearch().faults(), 0);
        for (int order = 0; order < 4; order++) {
            check.same("greedy(" + order + ")", new ColourSearch().greedy(order), 0);
        }
        check.tells(new ColourSearch(), 0, 0, 0, 0, 0, NONE);
    }

    private void newObjectRefuses() {
        check.at("promise 1: no NODES: none can be named");
        ColourSearch x = new ColourSearch();
        check.same("drop", x.drop(), false);
        check.same("arc(0, 1)", x.arc(0, 1), NONE);
        check.same("arc(0, 0)", x.arc(0, 0), NONE);
        check.same("list(0, 1)", x.list(0, 1), false);
        check.same("put(0, 1)", x.put(0, 1), false);
        check.same("put(0, NONE)", x.put(0, NONE), false);
        check.same("turn(0, 1)", x.turn(0, 1), NONE);
        check.same("colour(0)", x.colour(0), NONE);
        check.same("shade(0)", x.shade(0), NONE);
        check.same("taken(0)", x.taken(0), NONE);
        check.same("tint(0)", x.tint(0), NONE);
        check.same("tried(0)", x.tried(0), NONE);
        check.same("all", Nets.everything(x), Nets.everything(new ColourSearch()));
    }

    private void objectsAreApart() {
        check.at("promise 1: no NODES, whatever other objects have");
        ColourSearch other = Nets.toldOf();
        ColourSearch x = new ColourSearch();
        check.same("node", x.node(), 0);
        check.same("told(0) of the other", other.told(0), 5);
        check.same("colour(0)", x.colour(0), NONE);
        check.same("tried(0)", x.tried(0), NONE);
        check.same("listed", x.listed(), 12);
    }

    private void nodeWhenThereAreTwelve() {
        check.at("promise 2: NONE when there are 12");
        ColourSearch x = new ColourSearch();
        for (int i = 0; i < 12; i++) {
            check.same("node", x.node(), i);
            check.same("told(0)", x.told(0), i + 1);
        }
        for (int i = 0; i < 5; i++) {
            check.same("node", x.node(), NONE);
        }
        check.same("told(0)", x.told(0), 12);
        check.same("put(11, 0)", x.put(11, 0), true);
        check.same("put(12, 0)", x.put(12, 0), false);
        check.same("ways(2)", x.ways(2), 4096);
        x.clear();
        check.same("node after clear", x.node(), 0);
    }

    private void arcWithoutNodes() {
        check.at("promise 3: NONE when there is no such NODE: there is none at all, or one");
        ColourSearch x = new ColourSearch();
        check.same("arc(0, 1)", x.arc(0, 1), NONE);
        check.same("arc(1, 0)", x.arc(1, 0), NONE);
        x.node();
        check.same("arc(0, 1)", x.arc(0, 1), NONE);
        check.same("arc(1, 0)", x.arc(1, 0), NONE);
        check.same("arc(0, -1)", x.arc(0, -1), NONE);
        x.node();
        check.same("arc(1, 0)", x.arc(1, 0), 0);
    }

    private void arcWithoutSuchNode() {
        check.at("promise 3: NONE when there is no such NODE: too small, too large");
        for (int count = 2; count <= 12; count += 10) {
            ColourSearch x = Nets.nodes(count);
            for (int wrong : Nets.WRONG_NODES) {
                check.same("arc(0, " + wrong + ")", x.arc(0, wrong), NONE);
                check.same("arc(" + wrong + ", 0)", x.arc(wrong, 0), NONE);
                check.same("arc(1, " + wrong + ")", x.arc(1, wrong), NONE);
                check.same("arc(" + wrong + ", 1)", x.arc(wrong, 1), NONE);
            }
            check.same("told(1)", x.told(1), 0);
            check.same("told(2)", x.told(2), 0);
        }
    }

    private void arcWithTheNextNode() {
        check.at("promise 3: NONE when there is no such NODE: the number that the next will have");
        ColourSearch x = Nets.nodes(1);
        for (int count = 1; count < 12; count++) {
            check.same("arc(0, " + count + ")", x.arc(0, count), NONE);
            check.same("arc(" + count + ", 0)", x.arc(count, 0), NONE);
            x.node();
            check.same("arc(" + count + ", 0)", x.arc(count, 0), count - 1);
        }
        check.same("arc(11, 12)", x.arc(11, 12), NONE);
        check.same("arc(10, 11)", x.arc(10, 11), 11);
    }

    private void arcWithBothTheSame() {
        check.at("promise 3: NONE when both are the same");
        ColourSearch x = Nets.nodes(12);
        for (int v = 0; v < 12; v++) {
            check.same("arc(" + v + ", " + v + ")", x.arc(v, v), NONE);
        }
        check.same("told(1)", x.told(1), 0);
        check.same("least", x.least(), 1);
        check.same("arc(0, 11)", x.arc(0, 11), 0);
    }

    private void arcWhereNear() {
        check.at("promise 3: NONE when both are NEAR");
        ColourSearch x = Nets.net(12, 0, 11, 5, 4);
        check.same("arc(0, 11)", x.arc(0, 11), NONE);
        check.same("arc(11, 0)", x.arc(11, 0), NONE);
        check.same("arc(5, 4)", x.arc(5, 4), NONE);
        check.same("arc(4, 5)", x.arc(4, 5), NONE);
        check.same("told(1)", x.told(1), 2);
        x.drop();
        check.same("arc(0, 11) still", x.arc(0, 11), NONE);
        check.same("arc(4, 5) no longer near", x.arc(4, 5), 1);
        check.same("arc(5, 4)", x.arc(5, 4), NONE);
    }

    private void arcWhenThereAreForty() {
        check.at("promise 3: NONE when there are 40");
        ColourSearch x = Nets.nodes(12);
        int made = 0;
        for (int a = 0; a < 12; a++) {
            for (int b = a + 1; b < 12; b++) {
                check.same("arc(" + a + ", " + b + ")", x.arc(a, b), made < 40 ? made : NONE);
                made++;
            }
        }
        check.same("told(1)", x.told(1), 40);
        check.same("told(2)", x.told(2), 11);
        check.same("drop", x.drop(), true);
        check.same("arc(11, 10) is the fortieth", x.arc(11, 10), 39);
        check.same("arc(9, 11)", x.arc(9, 11), NONE);
        check.same("told(1)", x.told(1), 40);
    }

    private void arcWithSeveralRefusals() {
        check.at("promise 3: NONE for several reasons at once");
        ColourSearch x = Nets.full();
        for (int wrong : Nets.WRONG_NODES) {
            check.same("arc(" + wrong + ", " + wrong + ")", x.arc(wrong, wrong), NONE);
            check.same("arc(" + wrong + ", 3)", x.arc(wrong, 3), NONE);
        }
        check.same("arc(3, 3)", x.arc(3, 3), NONE);
        check.same("arc(0, 1)", x.arc(0, 1), NONE);
        check.same("arc(10, 11)", x.arc(10, 11), NONE);
        check.same("all", Nets.everything(x), Nets.everything(Nets.full()));
    }

    private void arcRefusedTakesNoNumber() {
        check.at("promise 3: ARCS 0, 1, ..: a refused one takes no number");
        ColourSearch x = Nets.nodes(3);
        check.same("arc(0, 0)", x.arc(0, 0), NONE);
        check.same("arc(0, 1)", x.arc(0, 1), 0);
        check.same("arc(1, 0)", x.arc(1, 0), NONE);
        check.same("arc(0, 3)", x.arc(0, 3), NONE);
        check.same("arc(1, 2)", x.arc(1, 2), 1);
        check.same("arc(0, 2)", x.arc(0, 2), 2);
    }

    private void dropWithoutArcs() {
        check.at("promise 4: whether there was one");
        ColourSearch x = new ColourSearch();
        check.same("drop without nodes", x.drop(), false);
        Nets.addNodes(x, 2);
        check.same("drop without arcs", x.drop(), false);
        check.same("drop again", x.drop(), false);
        check.same("told(1)", x.told(1), 0);
        check.same("arc(0, 1)", x.arc(0, 1), 0);
        check.same("drop", x.drop(), true);
        check.same("drop", x.drop(), false);
        check.same("told(0)", x.told(0), 2);
        check.same("told(1)", x.told(1), 0);
        x.arc(1, 0);
        x.clear();
        check.same("drop after clear", x.drop(), false);
    }

    private void dropTakesTheLast() {
        check.at("promise 4: the last ARC is gone");
        ColourSearch x = Nets.net(4, 0, 1, 2, 3, 1, 2);
        x.drop();
        check.same("arc(0, 1)", x.arc(0, 1), NONE);
        check.same("arc(3, 2)", x.arc(3, 2), NONE);
        check.same("told(3)", x.told(3), 2);
        check.same("arc(2, 1)", x.arc(2, 1), 2);
        x.drop();
        x.drop();
        check.same("arc(1, 0)", x.arc(1, 0), NONE);
        check.same("told(3)", x.told(3), 3);
        check.same("arc(2, 3)", x.arc(2, 3), 1);
    }

    private void dropDownFromForty() {
        check.at("promise 4: each of forty ARCS can go");
        ColourSearch x = Nets.full();
        for (int rest = 39; rest >= 0; rest--) {
            check.same("drop", x.drop(), true);
            check.same("told(1)", x.told(1), rest);
        }
        check.same("drop", x.drop(), false);
        check.same("told(1)", x.told(1), 0);
        check.same("told(3)", x.told(3), 12);
        check.same("ways(2)", x.ways(2), 4096);
        check.same("arc(0, 1)", x.arc(0, 1), 0);
    }

    private void toldOfNothing() {
        check.at("promise 27: how many, without any");
        check.tells(new ColourSearch(), 0, 0, 0, 0, 0, NONE);
        check.tells(Nets.nodes(1), 1, 0, 0, 1, 0, NONE);
        check.tells(Nets.nodes(12), 12, 0, 0, 12, 0, NONE);
    }

    private void toldOfAll() {
        check.at("promise 27: how many, with all that there can be");
        ColourSearch x = Nets.full();
        Nets.putAll(x, 11, 10, 9, 8, 7, 6, 5, 4, 3, 2, 1, 0);
        check.tells(x, 12, 40, 11, 1, 12, NONE);
    }

    private void toldOfAnother() {
        check.at("promise 27: NONE: another what");
        ColourSearch x = Nets.toldOf();
        for (int wrong : new int[] {
            -1, -2, -5, 5, 6, 31, 32, 33, 36, 64, 256, 260, 65536, 65540, Integer.MAX_VALUE, Integer.MIN_VALUE,
            Integer.MIN_VALUE + 4,
        }) {
            check.same("told(" + wrong + ")", x.told(wrong), NONE);
        }
        check.same("all", Nets.everything(x), Nets.everything(Nets.toldOf()));
    }

    private void toldOfNear() {
        check.at("promise 27: NEAR ones of the NODE with the most");
        ColourSearch x = Nets.net(4, 2, 3);
        check.same("told(2)", x.told(2), 1);
        x.arc(3, 0);
        check.same("told(2)", x.told(2), 2);
        x.arc(1, 3);
        check.same("told(2)", x.told(2), 3);
        Nets.dropAll(x);
        check.same("told(2) after drop", x.told(2), 0);
        check.same("told(2) of a star", Nets.star(11).told(2), 11);
        check.same("told(2) of the last node", Nets.wheel().told(2), 11);
    }

    private void toldOfParts() {
        check.at("promise 27: parts of the net");
        check.same("told(3) of none", new ColourSearch().told(3), 0);
        check.same("told(3) of a path from end to end", Nets.path(12).told(3), 1);
        ColourSearch back = Nets.net(12, 11, 10, 10, 9, 9, 8, 8, 7, 7, 6, 6, 5, 5, 4, 4, 3, 3, 2, 2, 1, 1, 0);
        check.same("told(3) of a path told backwards", back.told(3), 1);
        check.same("told(3) of a path that leaps", Nets.net(6, 0, 5, 5, 1, 1, 4, 4, 2, 2, 3).told(3), 1);
        check.same("told(3) of pairs", Nets.net(12, 0, 6, 1, 7, 2, 8, 3, 9, 4, 10, 5, 11).told(3), 6);
        check.same("told(3) of a ring and others alone", Nets.net(5, 1, 2, 2, 3, 3, 1).told(3), 3);
    }

    private void toldOfColoursInTheTry() {
        check.at("promise 27: different COLOURS in THE TRY");
        ColourSearch x = Nets.nodes(3);
        check.same("told(4) of none", x.told(4), 0);
        x.put(1, 11);
        check.same("told(4) of one", x.told(4), 1);
        x.put(0, 11);
        check.same("told(4) of like ones", x.told(4), 1);
        x.put(2, 0);
        check.same("told(4) of two", x.told(4), 2);
        x.put(2, NONE);
        check.same("told(4) without it", x.told(4), 1);
        x.turn(0, 3);
        check.same("told(4) after turn", x.told(4), 2);
        x.put(0, NONE);
        x.put(1, NONE);
        check.same("told(4) of none again", x.told(4), 0);
    }

    private void clearOfNothing() {
        check.at("promise 28: nothing, as at first: a new object");
        ColourSearch x = new ColourSearch();
        x.clear();
        x.clear();
        check.same("all", Nets.everything(x), Nets.everything(new ColourSearch()));
        check.same("node", x.node(), 0);
    }

    private void clearOfAll() {
        check.at("promise 28: nothing, as at first: a full net");
        ColourSearch x = Nets.full();
        Nets.putAll(x, 0, 1, 2, 3, 4, 5, 6, 7, 8, 9, 10, 11);
        x.clear();
        check.tells(x, 0, 0, 0, 0, 0, NONE);
        check.same("ways(7)", x.ways(7), 1);
        check.same("listed", x.listed(), 1);
        check.same("clique", x.clique(), 0);
        check.same("apart", x.apart(), 0);
        check.same("arcs throws", Nets.arcsThrows(x), false);
        check.same("drop", x.drop(), false);
        check.same("arc(0, 1)", x.arc(0, 1), NONE);
        for (int i = 0; i < 12; i++) {
            check.same("node", x.node(), i);
        }
        check.same("node", x.node(), NONE);
        check.same("told(3)", x.told(3), 12);
        check.same("arc(0, 1)", x.arc(0, 1), 0);
    }

    private void clearForgetsWhatWasTold() {
        check.at("promise 28: what was told before is gone");
        ColourSearch x = Nets.toldOf();
        x.clear();
        check.same("left", x.left(), 0);
        check.takes(x, NONE, NONE, NONE, NONE, NONE);
        Nets.addNodes(x, 5);
        Nets.join(x, 0, 1, 1, 2, 2, 3, 3, 0, 3, 4);
        check.colours(x, NONE, NONE, NONE, NONE, NONE);
        check.shades(x, NONE, NONE, NONE, NONE, NONE);
        check.tints(x, NONE, NONE, NONE, NONE, NONE);
        check.takes(x, NONE, NONE, NONE, NONE, NONE);
        check.same("left", x.left(), 0);
    }

    private void clearForgetsListsAndTheTry() {
        check.at("promise 28: nothing, as at first: LISTS and THE TRY");
        ColourSearch x = Nets.nodes(12);
        Nets.listAll(x, 0);
        Nets.putAll(x, 0, 1, 2, 3, 4, 5, 6, 7, 8, 9, 10, 11);
        x.clear();
        Nets.addNodes(x, 12);
        check.tries(x, NONE, NONE, NONE, NONE, NONE, NONE, NONE, NONE, NONE, NONE, NONE, NONE);
        check.same("told(4)", x.told(4), 0);
        check.same("listed", x.listed(), 8916100448256L);
        check.same("why", x.why(), 0);
        check.same("lists", x.lists(), 1);
    }

    private void clearThenAsNew() {
        check.at("promise 28: as at first: what follows is as with a new object");
        ColourSearch x = Nets.toldOf();
        x.ways(4);
        x.listed();
        x.clear();
        ColourSearch fresh = new ColourSearch();
        for (ColourSearch one : new ColourSearch[] {x, fresh}) {
            Nets.addNodes(one, 4);
            Nets.join(one, 0, 2, 3, 2);
            one.list(3, 0b10);
        }
        check.same("all", Nets.everything(x), Nets.everything(fresh));
    }
}

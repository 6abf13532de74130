/** Boundary cases of THE TRY (promises 23 to 26): a method for each sentence that names one. */
public final class BoundariesTryTest {
    private static final int NONE = ColourSearch.NONE;

    private final Check check = new Check();

    public static void main(String[] args) {
        BoundariesTryTest test = new BoundariesTryTest();
        test.put();
        test.tried();
        test.faults();
        test.turnRefused();
        test.turn();
        test.check.end();
    }

    private void put() {
        putOfNoSuchNode();
        putOfTheNextNode();
        putOfNoSuchColour();
        putOfEachColour();
        putOfNone();
        putWithSeveralRefusals();
        putWhereNearOnesAreAlike();
    }

    private void tried() {
        triedAtFirst();
        triedOfNoSuchNode();
        triedIsTheTrysAlone();
    }

    private void faults() {
        faultsWithoutColours();
        faultsWithOneEnd();
        faultsOfAll();
        faultsOfNow();
    }

    private void turnRefused() {
        turnOfNoSuchNode();
        turnWithNoSuchColour();
        turnWithoutItsOwn();
        turnToItsOwn();
        turnWithSeveralRefusals();
    }

    private void turn() {
        turnOfItselfAlone();
        turnOfAll();
        turnReachesByTheseTwoAlone();
        turnOfLikeOnes();
        turnTwiceIsAsBefore();
        turnWithTheFirstAndLastColour();
        turnOfTheNetOfNow();
    }

    private void putOfNoSuchNode() {
        check.at("promise 23: false when there is no such NODE");
        for (int count : new int[] {0, 1, 12}) {
            ColourSearch x = Nets.nodes(count);
            for (int wrong : Nets.WRONG_NODES) {
                check.same("put(" + wrong + ", 3)", x.put(wrong, 3), false);
                check.same("put(" + wrong + ", NONE)", x.put(wrong, NONE), false);
            }
            check.same("put(" + count + ", 3)", x.put(count, 3), false);
            check.same("all", Nets.everything(x), Nets.everything(Nets.nodes(count)));
        }
    }

    private void putOfTheNextNode() {
        check.at("promise 23: false when there is no such NODE: it leaves nothing for the one to come");
        ColourSearch x = Nets.nodes(1);
        for (int v = 1; v < 12; v++) {
            check.same("put(" + v + ", 5)", x.put(v, 5), false);
        }
        Nets.addNodes(x, 11);
        check.tries(x, NONE, NONE, NONE, NONE, NONE, NONE, NONE, NONE, NONE, NONE, NONE, NONE);
        check.same("put(11, 5)", x.put(11, 5), true);
        check.same("tried(11)", x.tried(11), 5);
    }

    private void putOfNoSuchColour() {
        check.at("promise 23: false when there is no such COLOUR");
        ColourSearch x = Nets.nodes(2);
        x.put(0, 7);
        for (int wrong : Nets.WRONG_COLOURS) {
            check.same("put(0, " + wrong + ")", x.put(0, wrong), false);
            check.same("put(1, " + wrong + ")", x.put(1, wrong), false);
        }
        check.tries(x, 7, NONE);
        check.same("told(4)", x.told(4), 1);
    }

    private void putOfEachColour() {
        check.at("promise 23: COLOURS are 0 to 11");
        ColourSearch x = Nets.nodes(12);
        for (int c = 0; c < 12; c++) {
            check.same("put(" + c + ", " + (11 - c) + ")", x.put(c, 11 - c), true);
        }
        check.tries(x, 11, 10, 9, 8, 7, 6, 5, 4, 3, 2, 1, 0);
        check.same("put(0, 12)", x.put(0, 12), false);
        check.same("tried(0)", x.tried(0), 11);
    }

    private void putOfNone() {
        check.at("promise 23: (NONE: none)");
        ColourSearch x = Nets.nodes(1);
        check.same("put(0, NONE) of none", x.put(0, NONE), true);
        check.same("tried(0)", x.tried(0), NONE);
        x.put(0, 0);
        check.same("tried(0)", x.tried(0), 0);
        check.same("put(0, NONE)", x.put(0, NONE), true);
        check.same("tried(0)", x.tried(0), NONE);
        check.same("told(4)", x.told(4), 0);
    }

    private void putWithSeveralRefusals() {
        check.at("promise 23: false for both reasons at once");
        ColourSearch x = Nets.toldOf();
        check.same("put(5, 12)", x.put(5, 12), false);
        check.same("put(-1, -2)", x.put(-1, -2), false);
        check.same("put(12, 12)", x.put(12, 12), false);
        check.same("all", Nets.everything(x), Nets.everything(Nets.toldOf()));
    }

    private void putWhereNearOnesAreAlike() {
        check.at("promise 23: THE TRY is a COLOUR, or none, for each NODE: NEAR ones may be alike, LISTS do not bind it");
        ColourSearch x = Nets.net(2, 0, 1);
        x.list(0, 0);
        check.same("put(0, 4)", x.put(0, 4), true);
        check.same("put(1, 4)", x.put(1, 4), true);
        check.tries(x, 4, 4);
    }

    private void triedAtFirst() {
        check.at("promise 24: (at first none)");
        ColourSearch x = Nets.full();
        check.tries(x, NONE, NONE, NONE, NONE, NONE, NONE, NONE, NONE, NONE, NONE, NONE, NONE, NONE);
    }

    private void triedOfNoSuchNode() {
        check.at("promise 24: NONE without: no such NODE");
        for (int count : new int[] {0, 1, 12}) {
            ColourSearch x = Nets.nodes(count);
            for (int v = 0; v < count; v++) {
                x.put(v, 4);
            }
            for (int wrong : Nets.WRONG_NODES) {
                check.same("tried(" + wrong + ") of " + count, x.tried(wrong), NONE);
            }
            check.same("tried(" + count + ")", x.tried(count), NONE);
            check.same("tried(" + (count - 1) + ")", x.tried(count - 1), count == 0 ? NONE : 4);
        }
    }

    private void triedIsTheTrysAlone() {
        check.at("promise 24: by THE TRY alone, which other calls leave");
        ColourSearch x = Nets.ring(4);
        x.put(0, 9);
        x.least();
        x.even(2);
        x.lists();
        x.arcs();
        x.greedy(0);
        x.chordal();
        x.drop();
        x.node();
        x.arc(4, 0);
        check.tries(x, 9, NONE, NONE, NONE, NONE, NONE);
    }

    private void faultsWithoutColours() {
        check.at("promise 25: without ARCS, or COLOURS: two ends with none have not the same COLOUR");
        check.same("faults of nothing", new ColourSearch().faults(), 0);
        check.same("faults of forty arcs", Nets.full().faults(), 0);
        ColourSearch loose = Nets.nodes(3);
        Nets.putAll(loose, 0, 0, 0);
        check.same("faults without arcs", loose.faults(), 0);
    }

    private void faultsWithOneEnd() {
        check.at("promise 25: the same COLOUR at both ends");
        ColourSearch x = Nets.net(2, 0, 1);
        x.put(0, 0);
        check.same("faults with one end", x.faults(), 0);
        x.put(1, 1);
        check.same("faults with others", x.faults(), 0);
        x.put(1, 0);
        check.same("faults with the same", x.faults(), 1);
        Nets.putAll(x, 11, 11);
        check.same("faults with the last colour", x.faults(), 1);
        x.put(0, NONE);
        check.same("faults with the other end", x.faults(), 0);
        x.put(1, NONE);
        check.same("faults with no end", x.faults(), 0);
    }

    private void faultsOfAll() {
        check.at("promise 25: how many ARCS: all of 40");
        ColourSearch x = Nets.full();
        Nets.putAll(x, 11, 11, 11, 11, 11, 11, 11, 11, 11, 11, 11, 11);
        check.same("faults", x.faults(), 40);
        x.put(0, NONE);
        check.same("faults without node 0", x.faults(), 29);
    }

    private void faultsOfNow() {
        check.at("promise 25: how many ARCS there are so now");
        ColourSearch x = Nets.ring(3);
        Nets.putAll(x, 2, 2, 2);
        check.same("faults", x.faults(), 3);
        x.drop();
        check.same("faults after drop", x.faults(), 2);
        x.node();
        x.put(3, 2);
        x.arc(3, 0);
        check.same("faults after arc", x.faults(), 3);
        x.turn(0, 1);
        check.same("faults after turn", x.faults(), 3);
        x.clear();
        check.same("faults after clear", x.faults(), 0);
    }

    private void turnOfNoSuchNode() {
        check.at("promise 26: NONE when there is no such NODE");
        for (int count : new int[] {0, 1, 12}) {
            ColourSearch x = Nets.path(count);
            ColourSearch twin = Nets.path(count);
            for (int v = 0; v < count; v++) {
                x.put(v, 4);
                twin.put(v, 4);
            }
            for (int wrong : Nets.WRONG_NODES) {
                check.same("turn(" + wrong + ", 1) of " + count, x.turn(wrong, 1), NONE);
            }
            check.same("turn(" + count + ", 1)", x.turn(count, 1), NONE);
            check.same("all", Nets.everything(x), Nets.everything(twin));
        }
    }

    private void turnWithNoSuchColour() {
        check.at("promise 26: NONE when there is no such COLOUR");
        ColourSearch x = Nets.path(3);
        Nets.putAll(x, 4, NONE, 5);
        for (int wrong : Nets.WRONG_COLOURS) {
            check.same("turn(0, " + wrong + ")", x.turn(0, wrong), NONE);
        }
        check.same("turn(0, NONE)", x.turn(0, NONE), NONE);
        check.tries(x, 4, NONE, 5);
    }

    private void turnWithoutItsOwn() {
        check.at("promise 26: NONE when it has none");
        ColourSearch x = Nets.path(3);
        Nets.putAll(x, 4, NONE, 5);
        for (int c = 0; c < 12; c++) {
            check.same("turn(1, " + c + ")", x.turn(1, c), NONE);
        }
        check.same("turn(1, NONE)", x.turn(1, NONE), NONE);
        check.tries(x, 4, NONE, 5);
        x.put(0, NONE);
        check.same("turn(0, 4)", x.turn(0, 4), NONE);
    }

    private void turnToItsOwn() {
        check.at("promise 26: NONE when it has this one");
        ColourSearch x = Nets.path(12);
        Nets.putAll(x, 0, 1, 2, 3, 4, 5, 6, 7, 8, 9, 10, 11);
        for (int v = 0; v < 12; v++) {
            check.same("turn(" + v + ", " + v + ")", x.turn(v, v), NONE);
        }
        check.tries(x, 0, 1, 2, 3, 4, 5, 6, 7, 8, 9, 10, 11);
    }

    private void turnWithSeveralRefusals() {
        check.at("promise 26: NONE for several reasons at once");
        ColourSearch x = Nets.toldOf();
        check.same("turn(5, 12)", x.turn(5, 12), NONE);
        check.same("turn(-1, -1)", x.turn(-1, -1), NONE);
        check.same("turn(4, 12)", x.turn(4, 12), NONE);
        check.same("turn(4, NONE)", x.turn(4, NONE), NONE);
        check.same("all", Nets.everything(x), Nets.everything(Nets.toldOf()));
    }

    private void turnOfItselfAlone() {
        check.at("promise 26: (itself too): none other is reached");
        ColourSearch one = Nets.nodes(1);
        one.put(0, 0);
        check.same("turn(0, 11)", one.turn(0, 11), 1);
        check.tries(one, 11);
        ColourSearch x = Nets.nodes(3);
        Nets.putAll(x, 1, 2, 1);
        check.same("turn(0, 2) without arcs", x.turn(0, 2), 1);
        check.tries(x, 2, 2, 1);
    }

    private void turnOfAll() {
        check.at("promise 26: how many NODES have another COLOUR then: all");
        ColourSearch x = Nets.path(12);
        Nets.putAll(x, 0, 1, 0, 1, 0, 1, 0, 1, 0, 1, 0, 1);
        check.same("turn(0, 1)", x.turn(0, 1), 12);
        check.tries(x, 1, 0, 1, 0, 1, 0, 1, 0, 1, 0, 1, 0);
        check.same("turn(11, 1)", x.turn(11, 1), 12);
        check.tries(x, 0, 1, 0, 1, 0, 1, 0, 1, 0, 1, 0, 1);
        ColourSearch leaps = Nets.net(6, 0, 5, 5, 1, 1, 4, 4, 2, 2, 3);
        Nets.putAll(leaps, 7, 7, 7, 8, 8, 8);
        check.same("turn(0, 8) of a path that leaps", leaps.turn(0, 8), 6);
        check.tries(leaps, 8, 8, 8, 7, 7, 7);
    }

    private void turnReachesByTheseTwoAlone() {
        check.at("promise 26: reached by NEAR ones of these two COLOURS");
        ColourSearch x = Nets.path(7);
        Nets.putAll(x, 0, 1, 2, 0, 1, NONE, 0);
        check.same("turn(0, 1)", x.turn(0, 1), 2);
        check.tries(x, 1, 0, 2, 0, 1, NONE, 0);
        check.same("turn(4, 0)", x.turn(4, 0), 2);
        check.tries(x, 1, 0, 2, 1, 0, NONE, 0);
        check.same("turn(6, 2)", x.turn(6, 2), 1);
        check.tries(x, 1, 0, 2, 1, 0, NONE, 2);
        check.same("turn(2, 0)", x.turn(2, 0), 2);
        check.tries(x, 1, 2, 0, 1, 0, NONE, 2);
    }

    private void turnOfLikeOnes() {
        check.at("promise 26: NEAR ones that are alike are reached too");
        ColourSearch x = Nets.path(4);
        Nets.putAll(x, 3, 3, 3, 4);
        check.same("turn(0, 4)", x.turn(0, 4), 4);
        check.tries(x, 4, 4, 4, 3);
        check.same("turn(1, 5)", x.turn(1, 5), 3);
        check.tries(x, 5, 5, 5, 3);
    }

    private void turnTwiceIsAsBefore() {
        check.at("promise 26: get the other of the two: turned back");
        ColourSearch x = Nets.ring(5);
        Nets.putAll(x, 0, 1, 0, 1, 2);
        check.same("turn(1, 0)", x.turn(1, 0), 4);
        check.tries(x, 1, 0, 1, 0, 2);
        check.same("turn(1, 1)", x.turn(1, 1), 4);
        check.tries(x, 0, 1, 0, 1, 2);
    }

    private void turnWithTheFirstAndLastColour() {
        check.at("promise 26: COLOURS 0 and 11");
        ColourSearch x = Nets.net(2, 0, 1);
        Nets.putAll(x, 0, 11);
        check.same("turn(0, 11)", x.turn(0, 11), 2);
        check.tries(x, 11, 0);
        check.same("turn(0, 0)", x.turn(0, 0), 2);
        check.tries(x, 0, 11);
    }

    private void turnOfTheNetOfNow() {
        check.at("promise 26: NEAR in the net of now");
        ColourSearch x = Nets.net(3, 0, 1, 1, 2);
        Nets.putAll(x, 0, 1, 0);
        x.drop();
        check.same("turn(0, 1) after drop", x.turn(0, 1), 2);
        check.tries(x, 1, 0, 0);
        x.arc(2, 0);
        check.same("turn(0, 0) after arc", x.turn(0, 0), 3);
        check.tries(x, 0, 1, 1);
    }
}

/**
 * The two sentences that hold for all calls: what was told stays till the same is asked again, and a refused call changes
 * nothing. Each is tried with every call that it could touch.
 */
public final class BoundariesStayTest {
    private static final int NONE = ColourSearch.NONE;
    private static final int REFUSALS = 21;
    private static final int QUESTIONS = 30;

    private final Check check = new Check();

    public static void main(String[] args) {
        BoundariesStayTest test = new BoundariesStayTest();
        test.refusedCallsChangeNothing();
        test.refusedCallsChangeNothingInAFullNet();
        test.questionsChangeNothing();
        test.toldColoursStay();
        test.toldShadesStay();
        test.toldTakingApartStays();
        test.toldTintsStay();
        test.newOnesHaveNone();
        test.check.end();
    }

    /** Whether the call was refused as the document says; each of them by another reason. */
    private static boolean refused(ColourSearch x, int which) {
        switch (which) {
            case 0:
                return x.arc(0, 5) == NONE;
            case 1:
                return x.arc(-1, 0) == NONE;
            case 2:
                return x.arc(2, 2) == NONE;
            case 3:
                return x.arc(1, 0) == NONE;
            case 4:
                return x.even(0) == NONE;
            case 5:
                return x.even(13) == NONE;
            case 6:
                return !x.list(5, 0);
            case 7:
                return !x.list(0, 4096);
            case 8:
                return !x.list(0, -1);
            case 9:
                return x.greedy(-1) == NONE;
            case 10:
                return x.greedy(4) == NONE;
            case 11:
                return !x.put(5, 0);
            case 12:
                return !x.put(0, 12);
            case 13:
                return !x.put(0, -2);
            case 14:
                return x.turn(5, 0) == NONE;
            case 15:
                return x.turn(0, 12) == NONE;
            case 16:
                return x.turn(0, NONE) == NONE;
            case 17:
                return x.turn(4, 0) == NONE;
            case 18:
                return x.turn(0, 5) == NONE;
            case 19:
                return x.told(5) == NONE;
            default:
                return x.told(-1) == NONE;
        }
    }

    private void refusedCallsChangeNothing() {
        check.at("a refused call changes nothing");
        String due = Nets.everything(Nets.toldOf());
        for (int which = 0; which < REFUSALS; which++) {
            ColourSearch x = Nets.toldOf();
            check.same("refusal " + which, refused(x, which), true);
            check.same("all after refusal " + which, Nets.everything(x), due);
        }
    }

    private static ColourSearch fullAndTold() {
        ColourSearch x = Nets.full();
        x.even(7);
        x.chordal();
        x.greedy(2);
        x.list(3, 0b1010);
        Nets.putAll(x, 1, 1, 2, 2);
        return x;
    }

    private void refusedCallsChangeNothingInAFullNet() {
        check.at("a refused call changes nothing: a full net");
        ColourSearch x = fullAndTold();
        check.same("node", x.node(), NONE);
        check.same("arc(10, 11)", x.arc(10, 11), NONE);
        check.same("arcs throws", Nets.arcsThrows(x), true);
        check.same("all", Nets.everything(x), Nets.everything(fullAndTold()));
        ColourSearch empty = Nets.nodes(2);
        check.same("drop", empty.drop(), false);
        check.same("all", Nets.everything(empty), Nets.everything(Nets.nodes(2)));
    }

    private static void ask(ColourSearch x, int which) {
        switch (which) {
            case 0:
                x.ways(3);
                break;
            case 1:
                x.ways(Long.MIN_VALUE);
                break;
            case 2:
                x.coefficient(1);
                break;
            case 3:
                x.listed();
                break;
            case 4:
                x.why();
                break;
            case 5:
                x.clique();
                break;
            case 6:
                x.apart();
                break;
            case 7:
                x.left();
                break;
            case 8:
                x.faults();
                break;
            case 9:
                x.colour(0);
                break;
            case 10:
                x.shade(0);
                break;
            case 11:
                x.taken(0);
                break;
            case 12:
                x.tint(0);
                break;
            case 13:
                x.tried(0);
                break;
            default:
                x.told(which - 14);
                break;
        }
    }

    private void questionsChangeNothing() {
        check.at("calls that only answer change nothing");
        String due = Nets.everything(Nets.toldOf());
        for (int which = 0; which < QUESTIONS; which++) {
            ColourSearch x = Nets.toldOf();
            ask(x, which);
            check.same("all after question " + which, Nets.everything(x), due);
        }
    }

    private static void change(ColourSearch x) {
        x.node();
        x.drop();
        x.arc(5, 0);
        x.arc(1, 3);
        x.list(0, 0);
        x.put(1, 9);
        x.turn(0, 3);
    }

    private void toldColoursStay() {
        check.at("what least(), even(), lists() told stays as it is till the same is asked again");
        for (int which = 0; which < 3; which++) {
            ColourSearch x = Nets.net(5, 0, 1, 1, 2, 2, 3, 3, 4);
            x.list(0, 0b1000);
            if (which == 0) {
                x.least();
            } else if (which == 1) {
                x.even(5);
            } else {
                x.lists();
            }
            int[][] due = {{0, 1, 0, 1, 0, NONE}, {0, 1, 2, 3, 4, NONE}, {3, 0, 1, 0, 1, NONE}};
            change(x);
            x.arcs();
            x.clique();
            x.apart();
            x.chordal();
            x.greedy(3);
            check.colours(x, due[which]);
        }
    }

    private void toldShadesStay() {
        check.at("what arcs() told stays as it is till the same is asked again");
        ColourSearch x = Nets.net(5, 0, 1, 1, 2, 2, 3, 3, 4);
        x.arcs();
        change(x);
        x.least();
        x.even(2);
        x.lists();
        x.clique();
        x.apart();
        x.chordal();
        x.greedy(3);
        // Number 3 is a new arc by now: the one that was told of is gone.
        check.shades(x, 0, 1, 0, NONE, NONE, NONE);
    }

    private void toldTakingApartStays() {
        check.at("what chordal() told stays as it is till the same is asked again");
        ColourSearch x = Nets.net(5, 0, 1, 1, 2, 2, 3, 3, 0, 3, 4);
        x.chordal();
        change(x);
        x.least();
        x.even(2);
        x.lists();
        x.arcs();
        x.clique();
        x.apart();
        x.greedy(2);
        check.takes(x, 4, NONE, NONE);
        check.same("left", x.left(), 0b1111);
    }

    private void toldTintsStay() {
        check.at("what greedy() told stays as it is till the same is asked again");
        ColourSearch x = Nets.net(5, 0, 1, 1, 2, 2, 3, 3, 4);
        x.greedy(0);
        change(x);
        x.least();
        x.even(2);
        x.lists();
        x.arcs();
        x.clique();
        x.apart();
        x.chordal();
        x.greedy(4);
        check.tints(x, 0, 1, 0, 1, 0, NONE);
    }

    private void newOnesHaveNone() {
        check.at("(a NODE or ARC of now that was not there then has NONE)");
        ColourSearch x = Nets.net(2, 0, 1);
        x.least();
        x.arcs();
        x.chordal();
        x.greedy(0);
        for (int v = 2; v < 12; v++) {
            x.node();
            check.same("arc", x.arc(v - 1, v), v - 1);
            check.same("colour(" + v + ")", x.colour(v), NONE);
            check.same("shade(" + (v - 1) + ")", x.shade(v - 1), NONE);
            check.same("tint(" + v + ")", x.tint(v), NONE);
            check.same("tried(" + v + ")", x.tried(v), NONE);
            check.same("taken(" + v + ")", x.taken(v), NONE);
        }
        check.colours(x, 0, 1, NONE);
        check.shades(x, 0, NONE);
        check.tints(x, 0, 1, NONE);
        check.takes(x, 0, 1, NONE);
    }
}

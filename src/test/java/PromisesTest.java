/** One method for each promise of the document: ordinary inputs, the edges that it names, and wrong inputs. */
public final class PromisesTest {
    private static final int NONE = ColourSearch.NONE;
    private static final int[] WRONG_NUMBERS = {-1, -2, 12, 13, 40, Integer.MAX_VALUE, Integer.MIN_VALUE};

    private final Check check = new Check();

    public static void main(String[] args) {
        PromisesTest test = new PromisesTest();
        test.runFirstHalf();
        test.runSecondHalf();
        test.readmeExample();
        test.check.end();
    }

    private void runFirstHalf() {
        promise1();
        promise2();
        promise3();
        promise3FortyArcs();
        promise4();
        promise5();
        promise6();
        promise6Edges();
        promise7();
        promise8();
        promise9();
        promise10();
        promise11();
        promise12();
        promise13();
    }

    private void runSecondHalf() {
        promise14();
        promise14Edges();
        promise15();
        promise16And17();
        promise18To20();
        promise21();
        promise22();
        promise23And24();
        promise25();
        promise26();
        promise27();
        promise28();
    }

    private void promise1() {
        check.at("promise 1");
        ColourSearch x = new ColourSearch();
        check.same("NONE", NONE, -1);
        check.same("told(0)", x.told(0), 0);
        check.same("told(1)", x.told(1), 0);
        check.same("told(2)", x.told(2), 0);
        check.same("told(3)", x.told(3), 0);
        check.same("told(4)", x.told(4), 0);
        check.same("drop", x.drop(), false);
        check.same("colour(0)", x.colour(0), NONE);
        check.same("shade(0)", x.shade(0), NONE);
        check.same("taken(0)", x.taken(0), NONE);
        check.same("left", x.left(), 0);
        check.same("tint(0)", x.tint(0), NONE);
        check.same("tried(0)", x.tried(0), NONE);
        check.same("faults", x.faults(), 0);
        check.same("even(1)", x.even(1), 1);
        check.same("apart", x.apart(), 0);
        check.same("greedy(2)", x.greedy(2), 0);
    }

    private void promise2() {
        check.at("promise 2");
        ColourSearch x = new ColourSearch();
        for (int i = 0; i < 12; i++) {
            check.same("node", x.node(), i);
        }
        check.same("node", x.node(), NONE);
        check.same("node", x.node(), NONE);
        check.same("told(0)", x.told(0), 12);
    }

    private void promise3() {
        check.at("promise 3");
        ColourSearch x = Nets.nodes(3);
        check.same("arc(2, 0)", x.arc(2, 0), 0);
        check.same("arc(2, 0) again", x.arc(2, 0), NONE);
        check.same("arc(0, 2) again", x.arc(0, 2), NONE);
        check.same("arc(1, 1)", x.arc(1, 1), NONE);
        check.same("arc(0, 3)", x.arc(0, 3), NONE);
        for (int wrong : WRONG_NUMBERS) {
            check.same("arc(0, " + wrong + ")", x.arc(0, wrong), NONE);
            check.same("arc(" + wrong + ", 1)", x.arc(wrong, 1), NONE);
            check.same("arc(" + wrong + ", " + wrong + ")", x.arc(wrong, wrong), NONE);
        }
        check.same("told(1)", x.told(1), 1);
        check.same("arc(1, 2)", x.arc(1, 2), 1);
        check.same("clique", x.clique(), 0b101);
    }

    private void promise3FortyArcs() {
        ColourSearch x = Nets.nodes(12);
        int made = 0;
        for (int a = 0; a < 12; a++) {
            for (int b = a + 1; b < 12; b++) {
                check.same("arc(" + a + ", " + b + ")", x.arc(a, b), made < 40 ? made : NONE);
                made++;
            }
        }
        check.same("told(1)", x.told(1), 40);
        check.same("drop", x.drop(), true);
        check.same("arc(10, 11)", x.arc(10, 11), 39);
        check.same("arc(9, 11)", x.arc(9, 11), NONE);
    }

    private void promise4() {
        check.at("promise 4");
        ColourSearch x = Nets.net(3, 0, 1, 1, 2);
        check.same("drop", x.drop(), true);
        check.same("least", x.least(), 2);
        check.colours(x, 0, 1, 0);
        check.same("told(1)", x.told(1), 1);
        check.same("arc(1, 2)", x.arc(1, 2), 1);
        check.same("drop", x.drop(), true);
        check.same("drop", x.drop(), true);
        check.same("drop", x.drop(), false);
        check.same("ways(3)", x.ways(3), 27);
        check.same("told(0)", x.told(0), 3);
        check.same("told(3)", x.told(3), 3);
    }

    private void promise5() {
        check.at("promise 5");
        check.same("least of none", new ColourSearch().least(), 0);
        check.same("least of one", Nets.nodes(1).least(), 1);
        check.same("least without arcs", Nets.nodes(12).least(), 1);
        check.same("least of nine all near", Nets.complete(9).least(), 9);
        check.same("least of an even ring", Nets.ring(12).least(), 2);
        ColourSearch odd = Nets.ring(11);
        check.same("least of an odd ring", odd.least(), 3);
        check.colours(odd, 0, 1, 0, 1, 0, 1, 0, 1, 0, 1, 2, NONE);
        ColourSearch late = Nets.net(4, 0, 3, 1, 2, 1, 3);
        check.same("least of a path", late.least(), 2);
        check.colours(late, 0, 0, 1, 1);
        ColourSearch groetzsch = Nets.net(11, 0, 1, 1, 2, 2, 3, 3, 4, 4, 0, 5, 1, 5, 4, 6, 0, 6, 2, 7, 1, 7, 3, 8, 2, 8, 4,
            9, 3, 9, 0, 10, 5, 10, 6, 10, 7, 10, 8, 10, 9);
        check.same("least with no three near", groetzsch.least(), 4);
        check.same("its greatest clique", groetzsch.clique(), 0b11);
    }

    private void promise6() {
        check.at("promise 6");
        ColourSearch x = Nets.star(4);
        check.same("even(2)", x.even(2), 0);
        check.colours(x, NONE, NONE, NONE, NONE, NONE);
        check.same("even(3)", x.even(3), 1);
        check.colours(x, 0, 1, 1, 2, 2);
        for (int wrong : new int[] {0, -1, 13, Integer.MAX_VALUE, Integer.MIN_VALUE}) {
            check.same("even(" + wrong + ")", x.even(wrong), NONE);
        }
        check.colours(x, 0, 1, 1, 2, 2);
        check.same("even(1)", x.even(1), 0);
        check.colours(x, NONE, NONE, NONE, NONE, NONE);
        check.same("even(13)", x.even(13), NONE);
        check.colours(x, NONE, NONE, NONE, NONE, NONE);
        check.same("even(12)", x.even(12), 1);
        check.colours(x, 0, 1, 2, 3, 4);
    }

    private void promise6Edges() {
        check.same("even(1) of one", Nets.nodes(1).even(1), 1);
        check.same("even(12) of none", new ColourSearch().even(12), 1);
        ColourSearch loose = Nets.nodes(12);
        check.same("even(1)", loose.even(1), 1);
        check.same("even(5)", loose.even(5), 1);
        check.colours(loose, 0, 0, 0, 1, 1, 1, 2, 2, 3, 3, 4, 4);
        check.same("even(12)", loose.even(12), 1);
        check.colours(loose, 0, 1, 2, 3, 4, 5, 6, 7, 8, 9, 10, 11);
        ColourSearch threeByThree = Nets.net(6, 0, 3, 0, 4, 0, 5, 1, 3, 1, 4, 1, 5, 2, 3, 2, 4, 2, 5);
        check.same("even(2) of 3 by 3", threeByThree.even(2), 1);
        check.colours(threeByThree, 0, 0, 0, 1, 1, 1);
        check.same("even(3) of 3 by 3", threeByThree.even(3), 0);
        check.same("even(4) of 3 by 3", threeByThree.even(4), 1);
        check.colours(threeByThree, 0, 0, 1, 2, 2, 3);
    }

    private void promise7() {
        check.at("promise 7");
        ColourSearch x = Nets.net(2, 0, 1);
        check.colours(x, NONE, NONE);
        x.least();
        check.colours(x, 0, 1);
        x.node();
        x.drop();
        check.colours(x, 0, 1, NONE);
        x.list(0, 1 << 11);
        x.list(2, 1 << 3);
        x.lists();
        check.colours(x, 11, 0, 3);
        x.even(3);
        check.colours(x, 0, 1, 2);
        x.greedy(0);
        x.chordal();
        x.clique();
        x.ways(2);
        x.listed();
        x.why();
        x.arcs();
        check.colours(x, 0, 1, 2);
        for (int wrong : WRONG_NUMBERS) {
            check.same("colour(" + wrong + ")", x.colour(wrong), NONE);
        }
    }

    private void promise8() {
        check.at("promise 8");
        ColourSearch ring = Nets.ring(12);
        check.same("ways(3) of a ring", ring.ways(3), 4096 + 2);
        check.same("ways(0) of a ring", ring.ways(0), 0);
        check.same("ways(-1) of a ring", ring.ways(-1), 4096 - 2);
        ColourSearch loose = Nets.nodes(12);
        check.same("ways(12) without arcs", loose.ways(12), 8916100448256L);
        check.same("ways(1000000) without arcs", loose.ways(1000000), power(1000000, 12));
        check.same("ways(least long)", loose.ways(Long.MIN_VALUE), 0);
        check.same("ways(greatest long)", loose.ways(Long.MAX_VALUE), power(Long.MAX_VALUE, 12));
        ColourSearch nine = Nets.complete(9);
        check.same("ways(8) of nine all near", nine.ways(8), 0);
        check.same("ways(9) of nine all near", nine.ways(9), 362880);
        check.same("ways(-1) of nine all near", nine.ways(-1), -362880);
        check.same("ways of none", new ColourSearch().ways(-77), 1);
        ColourSearch sixBySix = Nets.nodes(12);
        for (int i = 0; i < 36; i++) {
            sixBySix.arc(i / 6, 6 + i % 6);
        }
        check.same("ways(2) of 6 by 6", sixBySix.ways(2), 2);
        check.same("ways(3) of 6 by 6", sixBySix.ways(3), 3 * 64 + 3 * 62);
    }

    private static long power(long base, int exponent) {
        long product = 1;
        for (int i = 0; i < exponent; i++) {
            product *= base;
        }
        return product;
    }

    private void promise9() {
        check.at("promise 9");
        ColourSearch x = Nets.complete(4);
        long[] due = {0, -6, 11, -6, 1, 0, 0, 0, 0, 0, 0, 0, 0, 0, 0};
        for (int i = 0; i < due.length; i++) {
            check.same("coefficient(" + i + ")", x.coefficient(i), due[i]);
        }
        for (int wrong : WRONG_NUMBERS) {
            check.same("coefficient(" + wrong + ")", x.coefficient(wrong), 0);
        }
        x.node();
        check.same("coefficient(5)", x.coefficient(5), 1);
        check.same("coefficient(1)", x.coefficient(1), 0);
        x.drop();
        check.same("coefficient(4)", x.coefficient(4), -5);
        x.clear();
        check.same("coefficient(0)", x.coefficient(0), 1);
        check.same("coefficient(4)", x.coefficient(4), 0);
        ColourSearch nine = Nets.complete(9);
        check.same("coefficient(1) of nine all near", nine.coefficient(1), 40320);
        ColourSearch loose = Nets.nodes(12);
        check.same("coefficient(12)", loose.coefficient(12), 1);
        check.same("coefficient(11)", loose.coefficient(11), 0);
    }

    private void promise10() {
        check.at("promise 10");
        ColourSearch x = Nets.nodes(2);
        check.same("list(0, 4095)", x.list(0, 4095), true);
        check.same("list(1, 2048)", x.list(1, 2048), true);
        check.same("listed", x.listed(), 12);
        for (int wrong : new int[] {4096, 4097, -1, Integer.MIN_VALUE, Integer.MAX_VALUE}) {
            check.same("list(1, " + wrong + ")", x.list(1, wrong), false);
        }
        for (int wrong : WRONG_NUMBERS) {
            check.same("list(" + wrong + ", 1)", x.list(wrong, 1), false);
        }
        check.same("list(2, 1)", x.list(2, 1), false);
        check.same("listed", x.listed(), 12);
        check.same("list(0, 0)", x.list(0, 0), true);
        check.same("listed", x.listed(), 0);
        x.node();
        check.same("list(0, 1)", x.list(0, 1), true);
        check.same("listed with a new node", x.listed(), 12);
    }

    private void promise11() {
        check.at("promise 11");
        ColourSearch x = Nets.net(3, 0, 1, 1, 2);
        check.same("lists", x.lists(), 1);
        check.colours(x, 0, 1, 0);
        x.list(0, 0b110000000000);
        x.list(1, 0b110000000000);
        x.list(2, 0b010000000000);
        check.same("lists", x.lists(), 1);
        check.colours(x, 10, 11, 10);
        x.list(0, 0b100000000000);
        check.same("lists", x.lists(), 0);
        check.colours(x, NONE, NONE, NONE);
        ColourSearch nine = Nets.complete(9);
        for (int v = 0; v < 9; v++) {
            nine.list(v, 255 << v % 2);
        }
        check.same("lists of nine all near", nine.lists(), 1);
        check.colours(nine, 0, 1, 2, 3, 4, 5, 6, 8, 7);
        for (int v = 0; v < 9; v++) {
            nine.list(v, 255);
        }
        check.same("lists of nine with eight colours", nine.lists(), 0);
    }

    private void promise12() {
        check.at("promise 12");
        check.same("listed of none", new ColourSearch().listed(), 1);
        check.same("listed of twelve", Nets.nodes(12).listed(), 8916100448256L);
        ColourSearch x = Nets.net(3, 0, 1, 1, 2, 2, 0);
        check.same("listed", x.listed(), 12 * 11 * 10);
        x.list(0, 0b0011);
        x.list(1, 0b0110);
        x.list(2, 0b1100);
        check.same("listed with lists", x.listed(), 4);
        ColourSearch ring = Nets.ring(12);
        for (int v = 0; v < 12; v++) {
            ring.list(v, 0b111 << v % 3 * 3);
        }
        check.same("listed where near ones share none", ring.listed(), 531441);
        for (int v = 0; v < 12; v++) {
            ring.list(v, 0b111000);
        }
        check.same("listed of a ring with three", ring.listed(), 4098);
        ring.drop();
        check.same("listed of a path with three", ring.listed(), 3 * 2048);
    }

    private void promise13() {
        check.at("promise 13");
        ColourSearch x = Nets.net(5, 0, 1, 1, 2, 2, 3, 3, 4, 4, 0);
        check.same("why", x.why(), 0);
        for (int v = 0; v < 5; v++) {
            x.list(v, 0b11);
        }
        check.same("why of an odd ring", x.why(), 31);
        x.list(3, 0);
        check.same("why with an empty list", x.why(), 8);
        ColourSearch twice = Nets.net(6, 0, 1, 2, 3, 4, 5);
        for (int v = 0; v < 6; v++) {
            twice.list(v, 1 << v / 2);
        }
        check.same("why: the last are left out first", twice.why(), 0b11);
        twice.drop();
        check.same("why: of two reasons the lower nodes", twice.why(), 0b11);
        twice.list(1, 2);
        check.same("why: of the one reason", twice.why(), 0b1100);
        twice.list(3, 1);
        check.same("why", twice.why(), 0);
        check.same("why of none", new ColourSearch().why(), 0);
    }

    private void promise14() {
        check.at("promise 14");
        check.same("arcs of none", new ColourSearch().arcs(), 0);
        check.same("arcs without arcs", Nets.nodes(12).arcs(), 0);
        check.same("arcs of one", Nets.net(2, 1, 0).arcs(), 1);
        check.same("arcs of a star", Nets.star(11).arcs(), 11);
        check.same("arcs of an even ring", Nets.ring(12).arcs(), 2);
        ColourSearch odd = Nets.ring(3);
        check.same("arcs of an odd ring", odd.arcs(), 3);
        check.shades(odd, 0, 1, 2);
        check.same("arcs of four all near", Nets.complete(4).arcs(), 3);
        check.same("arcs of five all near", Nets.complete(5).arcs(), 5);
        check.same("arcs of six all near", Nets.complete(6).arcs(), 5);
        ColourSearch path = Nets.net(4, 0, 1, 2, 3, 1, 2);
        check.same("arcs of a path", path.arcs(), 2);
        check.shades(path, 0, 0, 1);
        ColourSearch late = Nets.net(5, 0, 1, 2, 3, 3, 4, 1, 2);
        check.same("arcs of a path told otherwise", late.arcs(), 2);
        check.shades(late, 0, 0, 1, 1);
    }

    private void promise14Edges() {
        ColourSearch x = Nets.nodes(12);
        for (int i = 0; i < 16; i++) {
            x.arc(i / 4, 4 + i % 4);
        }
        check.same("arcs with 16", x.arcs(), 4);
        check.shades(x, 0, 1, 2, 3, 1, 0, 3, 2, 2, 3, 0, 1, 3, 2, 1, 0, NONE);
        x.arc(10, 11);
        check.same("arcs with 17 throws", Nets.arcsThrows(x), true);
        check.shades(x, 0, 1, 2, 3, 1, 0, 3, 2, 2, 3, 0, 1, 3, 2, 1, 0, NONE);
        x.drop();
        check.same("arcs with 16 throws", Nets.arcsThrows(x), false);
    }

    private void promise15() {
        check.at("promise 15");
        ColourSearch x = Nets.net(4, 0, 1, 1, 2, 2, 3);
        check.shades(x, NONE, NONE, NONE);
        x.arcs();
        check.shades(x, 0, 1, 0, NONE);
        x.arc(0, 3);
        check.shades(x, 0, 1, 0, NONE);
        x.drop();
        x.drop();
        check.shades(x, 0, 1, NONE, NONE);
        x.arc(0, 2);
        check.shades(x, 0, 1, NONE, NONE);
        x.arcs();
        check.shades(x, 0, 1, 2, NONE);
        for (int wrong : WRONG_NUMBERS) {
            check.same("shade(" + wrong + ")", x.shade(wrong), NONE);
        }
    }

    private void promise16And17() {
        check.at("promise 16");
        check.same("clique of none", new ColourSearch().clique(), 0);
        check.same("clique without arcs", Nets.nodes(12).clique(), 1);
        check.same("clique of nine all near", Nets.complete(9).clique(), 511);
        ColourSearch two = Nets.net(7, 1, 3, 3, 5, 5, 1, 0, 2, 2, 4, 4, 6);
        check.same("clique: the most nodes", two.clique(), 0b101010);
        Nets.join(two, 0, 4);
        check.same("clique: the lowest node in which they differ", two.clique(), 0b10101);
        check.at("promise 17");
        check.same("apart of none", new ColourSearch().apart(), 0);
        check.same("apart without arcs", Nets.nodes(12).apart(), 4095);
        check.same("apart of nine all near", Nets.complete(9).apart(), 1);
        check.same("apart of a ring", Nets.ring(12).apart(), 0b010101010101);
        check.same("apart of a star", Nets.star(11).apart(), 4094);
        check.same("apart of a path", Nets.net(4, 0, 1, 1, 2, 2, 3).apart(), 0b101);
    }

    private void promise18To20() {
        check.at("promise 18");
        check.same("chordal of none", new ColourSearch().chordal(), 1);
        check.same("chordal of nine all near", Nets.complete(9).chordal(), 1);
        ColourSearch x = Nets.net(7, 0, 1, 1, 2, 2, 3, 3, 0, 0, 6, 6, 5);
        check.same("left before", x.left(), 0);
        check.same("taken before", x.taken(0), NONE);
        check.same("chordal", x.chordal(), 0);
        check.at("promise 19");
        int[] due = {4, 5, 6, NONE, NONE};
        for (int k = 0; k < due.length; k++) {
            check.same("taken(" + k + ")", x.taken(k), due[k]);
        }
        for (int wrong : WRONG_NUMBERS) {
            check.same("taken(" + wrong + ")", x.taken(wrong), NONE);
        }
        check.at("promise 20");
        check.same("left", x.left(), 0b1111);
        x.arc(0, 2);
        x.node();
        check.same("left stays", x.left(), 0b1111);
        check.same("taken stays", x.taken(0), 4);
        check.same("chordal", x.chordal(), 1);
        int[] then = {1, 2, 3, 0, 4, 5, 6, 7, NONE};
        for (int k = 0; k < then.length; k++) {
            check.same("taken(" + k + ")", x.taken(k), then[k]);
        }
        check.same("left", x.left(), 0);
    }

    private void promise21() {
        check.at("promise 21");
        ColourSearch crown = Nets.net(6, 0, 3, 0, 5, 1, 2, 1, 4, 2, 5, 3, 4);
        check.same("greedy(0) of a ring told crosswise", crown.greedy(0), 3);
        check.tints(crown, 0, 0, 1, 1, 2, 2);
        check.same("greedy(1)", crown.greedy(1), 3);
        check.same("greedy(2)", crown.greedy(2), 2);
        check.tints(crown, 0, 1, 0, 1, 0, 1);
        check.same("greedy(3)", crown.greedy(3), 2);
        check.tints(crown, 0, 1, 0, 1, 0, 1);
        ColourSearch late = Nets.net(5, 4, 3, 4, 2, 4, 1, 0, 1);
        check.same("greedy(0) of a tree", late.greedy(0), 3);
        check.tints(late, 0, 1, 0, 0, 2);
        check.same("greedy(1): the most near first", late.greedy(1), 2);
        check.tints(late, 0, 1, 1, 1, 0);
        check.same("greedy(2)", late.greedy(2), 2);
        check.tints(late, 0, 1, 1, 1, 0);
        for (int wrong : new int[] {-1, 4, 5, Integer.MAX_VALUE, Integer.MIN_VALUE}) {
            check.same("greedy(" + wrong + ")", late.greedy(wrong), NONE);
        }
        for (int order = 0; order < 4; order++) {
            check.same("greedy(" + order + ") of nine all near", Nets.complete(9).greedy(order), 9);
            check.same("greedy(" + order + ") without arcs", Nets.nodes(12).greedy(order), 1);
            check.same("greedy(" + order + ") of none", new ColourSearch().greedy(order), 0);
        }
    }

    private void promise22() {
        check.at("promise 22");
        ColourSearch x = Nets.net(3, 0, 1);
        check.tints(x, NONE, NONE, NONE);
        x.greedy(0);
        check.tints(x, 0, 1, 0);
        x.greedy(4);
        x.least();
        x.node();
        x.arc(2, 1);
        check.tints(x, 0, 1, 0, NONE);
        x.greedy(1);
        check.tints(x, 1, 0, 1, 0);
        for (int wrong : WRONG_NUMBERS) {
            check.same("tint(" + wrong + ")", x.tint(wrong), NONE);
        }
    }

    private void promise23And24() {
        check.at("promise 23");
        ColourSearch x = Nets.nodes(2);
        check.tries(x, NONE, NONE, NONE);
        check.same("put(0, 11)", x.put(0, 11), true);
        check.same("put(1, 0)", x.put(1, 0), true);
        for (int wrong : new int[] {12, -2, Integer.MAX_VALUE, Integer.MIN_VALUE}) {
            check.same("put(0, " + wrong + ")", x.put(0, wrong), false);
        }
        for (int wrong : WRONG_NUMBERS) {
            check.same("put(" + wrong + ", 1)", x.put(wrong, 1), false);
        }
        check.same("put(2, 1)", x.put(2, 1), false);
        check.at("promise 24");
        check.tries(x, 11, 0, NONE);
        x.node();
        check.tries(x, 11, 0, NONE);
        check.same("put(0, NONE)", x.put(0, NONE), true);
        check.tries(x, NONE, 0, NONE);
        for (int wrong : WRONG_NUMBERS) {
            check.same("tried(" + wrong + ")", x.tried(wrong), NONE);
        }
    }

    private void promise25() {
        check.at("promise 25");
        ColourSearch x = Nets.net(3, 0, 1, 1, 2, 2, 0);
        check.same("faults", x.faults(), 0);
        x.put(0, 5);
        x.put(1, 5);
        check.same("faults", x.faults(), 1);
        x.put(2, 5);
        check.same("faults", x.faults(), 3);
        x.put(1, NONE);
        check.same("faults", x.faults(), 1);
        x.drop();
        check.same("faults", x.faults(), 0);
    }

    private void promise26() {
        check.at("promise 26");
        ColourSearch x = Nets.net(6, 0, 1, 1, 2, 2, 3, 3, 4, 4, 5);
        int[] colours = {0, 1, 0, 2, 0, 1};
        for (int v = 0; v < 6; v++) {
            x.put(v, colours[v]);
        }
        check.same("turn(1, 0)", x.turn(1, 0), 3);
        check.tries(x, 1, 0, 1, 2, 0, 1);
        check.same("turn(3, 11)", x.turn(3, 11), 1);
        check.tries(x, 1, 0, 1, 11, 0, 1);
        check.same("turn to its own", x.turn(3, 11), NONE);
        check.same("turn(0, NONE)", x.turn(0, NONE), NONE);
        check.same("turn(0, 12)", x.turn(0, 12), NONE);
        for (int wrong : WRONG_NUMBERS) {
            check.same("turn(" + wrong + ", 1)", x.turn(wrong, 1), NONE);
        }
        check.same("turn(6, 1)", x.turn(6, 1), NONE);
        check.tries(x, 1, 0, 1, 11, 0, 1);
        x.put(1, 1);
        check.same("turn where near ones are alike", x.turn(0, 4), 3);
        check.tries(x, 4, 4, 4, 11, 0, 1);
        x.put(5, NONE);
        check.same("turn without a colour", x.turn(5, 1), NONE);
        check.same("turn(4, 3)", x.turn(4, 3), 1);
        check.tries(x, 4, 4, 4, 11, 3, NONE);
    }

    private void promise27() {
        check.at("promise 27");
        ColourSearch x = Nets.net(6, 0, 1, 1, 2, 1, 3, 4, 5);
        x.put(0, 3);
        x.put(1, 3);
        x.put(5, 0);
        int[] due = {6, 4, 3, 2, 2};
        for (int what = 0; what < 5; what++) {
            check.same("told(" + what + ")", x.told(what), due[what]);
        }
        for (int wrong : new int[] {-1, 5, 6, Integer.MAX_VALUE, Integer.MIN_VALUE}) {
            check.same("told(" + wrong + ")", x.told(wrong), NONE);
        }
        x.drop();
        check.same("told(3)", x.told(3), 3);
        check.same("told(3) without arcs", Nets.nodes(12).told(3), 12);
    }

    private void promise28() {
        check.at("promise 28");
        ColourSearch x = Nets.net(4, 0, 1, 1, 2, 2, 3, 3, 0);
        x.least();
        x.arcs();
        x.chordal();
        x.greedy(0);
        x.list(0, 1);
        x.put(0, 1);
        x.ways(3);
        x.listed();
        x.clear();
        for (int what = 0; what < 5; what++) {
            check.same("told(" + what + ")", x.told(what), 0);
        }
        check.same("left", x.left(), 0);
        check.same("taken(0)", x.taken(0), NONE);
        check.same("ways(3)", x.ways(3), 1);
        check.same("listed", x.listed(), 1);
        check.same("drop", x.drop(), false);
        check.same("node", x.node(), 0);
        check.same("node", x.node(), 1);
        check.same("colour(0)", x.colour(0), NONE);
        check.same("tint(0)", x.tint(0), NONE);
        check.same("tried(0)", x.tried(0), NONE);
        check.same("listed", x.listed(), 144);
        check.same("arc(0, 1)", x.arc(0, 1), 0);
        check.same("shade(0)", x.shade(0), NONE);
        check.same("listed", x.listed(), 132);
        check.same("ways(3)", x.ways(3), 6);
        x.chordal();
        x.clear();
        check.same("taken(0)", x.taken(0), NONE);
    }

    private void readmeExample() {
        check.at("README.md, how to use it");
        ColourSearch net = new ColourSearch();
        int a = net.node();
        int b = net.node();
        int c = net.node();
        check.same("arc(a, b)", net.arc(a, b), 0);
        check.same("arc(b, c)", net.arc(b, c), 1);
        check.same("least()", net.least(), 2);
        check.same("colour(c)", net.colour(c), 0);
        check.same("ways(3)", net.ways(3), 12);
        check.same("list(a, 0b1)", net.list(a, 0b1), true);
        check.same("list(b, 0b1)", net.list(b, 0b1), true);
        check.same("lists()", net.lists(), 0);
        check.same("why()", net.why(), 0b11);
        check.same("arcs()", net.arcs(), 2);
        check.same("shade(1)", net.shade(1), 1);
        check.same("put(a, 0)", net.put(a, 0), true);
        check.same("put(b, 1)", net.put(b, 1), true);
        check.same("turn(a, 1)", net.turn(a, 1), 2);
        check.same("tried(a)", net.tried(a), 1);
    }
}

import java.util.Random;

/** Runs of calls by chance (always the same ones), each answer held against the plain model's. */
public final class RandomRunsTest {
    private static final int CALLS = 512;

    private final Check check;
    private final Random random;
    private final int mostNodes;
    private ColourSearch search = new ColourSearch();
    private Model model = new Model();

    private RandomRunsTest(Check check, long seed, int mostNodes) {
        this.check = check;
        this.random = new Random(seed);
        this.mostNodes = mostNodes;
    }

    public static void main(String[] args) {
        Check check = new Check();
        new RandomRunsTest(check, 1, 5).runs(300, "small");
        new RandomRunsTest(check, 2, 7).runs(200, "middle");
        new RandomRunsTest(check, 3, 9).runs(150, "large");
        new RandomRunsTest(check, 4, 12).runs(12, "full");
        check.end();
    }

    private void runs(int count, String name) {
        for (int run = 0; run < count; run++) {
            search = new ColourSearch();
            model = new Model();
            int thick = 1 + random.nextInt(6);
            for (int call = 0; call < CALLS; call++) {
                check.at(name + " run " + run + " call " + call);
                if (random.nextInt(4) == 0) {
                    change(thick);
                } else {
                    ask();
                }
            }
        }
    }

    private int near(int low, int high) {
        return random.nextInt(30) == 0 ? random.nextInt() : low + random.nextInt(high - low + 1);
    }

    private int someNode() {
        return near(random.nextInt(10) == 0 ? -1 : 0, Math.max(0, model.nodes() - random.nextInt(8) / 7));
    }

    private void change(int thick) {
        switch (random.nextInt(12)) {
            case 0:
            case 1:
                if (model.nodes() < mostNodes || mostNodes == 12) {
                    check.same("node", search.node(), model.node());
                }
                break;
            case 2:
            case 3:
                for (int i = 0; i < thick; i++) {
                    int a = someNode();
                    int b = someNode();
                    check.same("arc " + a + " " + b, search.arc(a, b), model.arc(a, b));
                }
                break;
            case 4:
                check.same("drop", search.drop(), model.drop());
                break;
            case 5:
            case 6:
            case 7:
                changeList();
                break;
            case 11:
                if (random.nextInt(20) == 0) {
                    search.clear();
                    model.clear();
                }
                break;
            default:
                int v = someNode();
                int c = near(-2, random.nextBoolean() ? 12 : 3);
                check.same("put " + v + " " + c, search.put(v, c), model.put(v, c));
                break;
        }
    }

    private void changeList() {
        int v = someNode();
        int bits = random.nextInt(4096);
        int kind = random.nextInt(12);
        if (kind < 8) {
            bits &= (1 << 1 + random.nextInt(4)) - 1;
        } else if (kind == 8) {
            bits = 4095;
        } else if (kind == 9) {
            bits = random.nextInt();
        }
        check.same("list " + v + " " + bits, search.list(v, bits), model.list(v, bits));
    }

    private void ask() {
        switch (random.nextInt(20)) {
            case 0:
                check.same("least", search.least(), model.least());
                showColours();
                break;
            case 1:
            case 2:
                int k = near(0, random.nextBoolean() ? 13 : 4);
                check.same("even " + k, search.even(k), model.even(k));
                showColours();
                break;
            case 3:
                check.same("lists", search.lists(), model.lists());
                showColours();
                break;
            case 4:
                check.same("listed", search.listed(), model.listed());
                break;
            case 5:
                check.same("why", search.why(), model.why());
                break;
            case 6:
                long x = random.nextBoolean() ? random.nextLong() : near(-3, 13);
                check.same("ways " + x, search.ways(x), model.ways(x));
                break;
            case 7:
                int i = near(-1, 13);
                check.same("coefficient " + i, search.coefficient(i), model.coefficient(i));
                break;
            case 8:
                check.same("arcs", shadeArcs(), model.arcs());
                showShades();
                break;
            case 9:
                check.same("clique", search.clique(), model.clique());
                check.same("apart", search.apart(), model.apart());
                break;
            case 10:
                check.same("chordal", search.chordal(), model.chordal());
                showTaken();
                break;
            case 11:
                int order = near(-1, 4);
                check.same("greedy " + order, search.greedy(order), model.greedy(order));
                showTints();
                break;
            case 12:
                int v = someNode();
                int c = near(-1, random.nextBoolean() ? 12 : 3);
                check.same("turn " + v + " " + c, search.turn(v, c), model.turn(v, c));
                break;
            case 13:
                int what = near(-1, 5);
                check.same("told " + what, search.told(what), model.told(what));
                break;
            case 14:
                check.same("faults", search.faults(), model.faults());
                break;
            case 15:
                showColours();
                break;
            case 16:
                showShades();
                break;
            case 17:
                showTaken();
                break;
            case 18:
                showTints();
                break;
            default:
                showAttempt();
                break;
        }
    }

    private int shadeArcs() {
        try {
            return search.arcs();
        } catch (IllegalStateException e) {
            return ColourSearch.NONE;
        }
    }

    private void showColours() {
        for (int v = -1; v <= 12; v++) {
            check.same("colour " + v, search.colour(v), model.colour(v));
        }
    }

    private void showShades() {
        for (int i = -1; i <= 40; i++) {
            check.same("shade " + i, search.shade(i), model.shade(i));
        }
    }

    private void showTaken() {
        for (int i = -1; i <= 12; i++) {
            check.same("taken " + i, search.taken(i), model.taken(i));
        }
        check.same("left", search.left(), model.left());
    }

    private void showTints() {
        for (int v = -1; v <= 12; v++) {
            check.same("tint " + v, search.tint(v), model.tint(v));
        }
    }

    private void showAttempt() {
        for (int v = -1; v <= 12; v++) {
            check.same("tried " + v, search.tried(v), model.tried(v));
        }
    }
}

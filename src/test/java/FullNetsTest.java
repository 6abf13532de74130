import java.util.Arrays;
import java.util.Random;

/** Nets too large for the plain model: answers are held against each other, and against what a check can see. */
public final class FullNetsTest {
    private static final int NETS = 400;

    private final Check check = new Check();
    private final Random random = new Random(7);
    private int nodes;
    private int[][] ends = new int[0][];

    public static void main(String[] args) {
        FullNetsTest test = new FullNetsTest();
        for (int i = 0; i < NETS; i++) {
            test.check.at("net " + i);
            test.looksAt(test.makeNet());
        }
        test.check.end();
    }

    private ColourSearch makeNet() {
        nodes = 10 + random.nextInt(3);
        int most = random.nextInt(4) == 0 ? 16 : 41;
        int wanted = random.nextInt(most + 1);
        ends = new int[wanted][];
        int made = 0;
        ColourSearch x = new ColourSearch();
        for (int i = 0; i < nodes; i++) {
            x.node();
        }
        for (int i = 0; i < 300 && made < wanted; i++) {
            int a = random.nextInt(nodes);
            int b = random.nextInt(nodes);
            if (x.arc(a, b) != ColourSearch.NONE) {
                ends[made] = new int[] {a, b};
                made++;
            }
        }
        ends = Arrays.copyOf(ends, made);
        return x;
    }

    private void looksAt(ColourSearch x) {
        int least = x.least();
        int[] first = colours(x);
        isColouring(first, least);
        check.same("ways(least) is above 0", x.ways(least) > 0, true);
        check.same("ways(least - 1)", x.ways(least - 1), 0);
        check.same("listed is ways(12)", x.listed(), x.ways(12));
        leadingCoefficients(x);
        for (int order = 0; order < 4; order++) {
            check.same("greedy(" + order + ") reaches least", x.greedy(order) >= least, true);
        }
        check.same("clique fits", Integer.bitCount(x.clique()) <= least, true);
        check.same("apart fits", Integer.bitCount(x.apart()) * least >= nodes, true);
        if (x.chordal() == 1) {
            check.same("least of a chordal net", least, Integer.bitCount(x.clique()));
        }
        byLists(x, least, first);
        evenly(x, least);
        shades(x);
    }

    private int[] colours(ColourSearch x) {
        int[] got = new int[nodes];
        for (int v = 0; v < nodes; v++) {
            got[v] = x.colour(v);
        }
        return got;
    }

    private void isColouring(int[] got, int k) {
        for (int v = 0; v < nodes; v++) {
            check.same("colour " + got[v] + " below " + k, got[v] >= 0 && got[v] < k, true);
        }
        for (int[] arc : ends) {
            check.same("near ones alike", got[arc[0]] == got[arc[1]], false);
        }
    }

    private void leadingCoefficients(ColourSearch x) {
        check.same("leading coefficient", x.coefficient(nodes), 1);
        check.same("next coefficient", x.coefficient(nodes - 1), -ends.length);
        check.same("last coefficient", x.coefficient(0), 0);
        long sum = 0;
        for (int i = 0; i <= nodes; i++) {
            sum += x.coefficient(i);
            int parts = x.told(3);
            check.same("coefficient(" + i + ") is there", x.coefficient(i) != 0, i >= parts);
        }
        check.same("sum of coefficients", sum, x.ways(1));
    }

    /** With the colours below k in every list, lists count and colour as least and ways do. */
    private void byLists(ColourSearch x, int least, int[] first) {
        for (int k = Math.max(0, least - 1); k <= least + 1; k++) {
            for (int v = 0; v < nodes; v++) {
                x.list(v, (1 << k) - 1);
            }
            check.same("listed with " + k, x.listed(), x.ways(k));
            check.same("lists with " + k, x.lists(), k >= least ? 1 : 0);
            if (k == least) {
                int[] got = colours(x);
                check.same("first by lists", Arrays.equals(got, first), true);
            }
            int why = x.why();
            check.same("why with " + k, why != 0, k < least);
        }
        for (int v = 0; v < nodes; v++) {
            x.list(v, random.nextInt(4096) & random.nextInt(4096));
        }
        check.same("lists as listed", x.lists(), x.listed() > 0 ? 1 : 0);
        check.same("why as listed", x.why() == 0, x.listed() > 0);
    }

    private void evenly(ColourSearch x, int least) {
        int most = x.told(2);
        for (int k = 1; k <= 12; k++) {
            int answer = x.even(k);
            check.same("even(" + k + ") asks for " + least, answer == 0 || k >= least, true);
            // The theorem of Hajnal and Szemeredi.
            check.same("even(" + k + ") with " + most + " near", answer == 1 || k <= most, true);
            if (answer == 1) {
                int[] got = colours(x);
                isColouring(got, k);
                int[] counts = new int[k];
                for (int c : got) {
                    counts[c]++;
                }
                Arrays.sort(counts);
                check.same("even(" + k + ") is even", counts[k - 1] - counts[0] <= 1, true);
            }
        }
    }

    private void shades(ColourSearch x) {
        if (ends.length > 16) {
            return;
        }
        int k = x.arcs();
        check.same("arcs by Vizing", k == x.told(2) || k == x.told(2) + 1, true);
        for (int i = 0; i < ends.length; i++) {
            check.same("shade below " + k, x.shade(i) >= 0 && x.shade(i) < k, true);
            for (int j = 0; j < i; j++) {
                boolean touch = ends[i][0] == ends[j][0] || ends[i][0] == ends[j][1] || ends[i][1] == ends[j][0]
                    || ends[i][1] == ends[j][1];
                check.same("shades alike", touch && x.shade(i) == x.shade(j), false);
            }
        }
    }
}

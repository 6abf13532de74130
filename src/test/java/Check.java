/** Counts answers that are not as due, and ends a test's run. */
final class Check {
    private static final int MOST_PRINTED = 40;

    private int wrong = 0;
    private int asked = 0;
    private String where = "";

    /** Where the answers that follow belong: a promise, and the words of it that they hold to. */
    void at(String place) {
        where = place;
    }

    void same(String call, long got, long due) {
        asked++;
        if (got != due) {
            tell(call + " answered " + got + ", due is " + due);
        }
    }

    void same(String call, boolean got, boolean due) {
        same(call, got ? 1 : 0, due ? 1 : 0);
    }

    void same(String call, String got, String due) {
        asked++;
        if (!got.equals(due)) {
            tell(call + " answered " + got + ", due is " + due);
        }
    }

    private void tell(String text) {
        wrong++;
        if (wrong <= MOST_PRINTED) {
            System.out.println(where + ": " + text);
        }
    }

    void colours(ColourSearch x, int... due) {
        for (int v = 0; v < due.length; v++) {
            same("colour(" + v + ")", x.colour(v), due[v]);
        }
    }

    void shades(ColourSearch x, int... due) {
        for (int i = 0; i < due.length; i++) {
            same("shade(" + i + ")", x.shade(i), due[i]);
        }
    }

    void tints(ColourSearch x, int... due) {
        for (int v = 0; v < due.length; v++) {
            same("tint(" + v + ")", x.tint(v), due[v]);
        }
    }

    void tries(ColourSearch x, int... due) {
        for (int v = 0; v < due.length; v++) {
            same("tried(" + v + ")", x.tried(v), due[v]);
        }
    }

    void takes(ColourSearch x, int... due) {
        for (int k = 0; k < due.length; k++) {
            same("taken(" + k + ")", x.taken(k), due[k]);
        }
    }

    void tells(ColourSearch x, int... due) {
        for (int what = 0; what < due.length; what++) {
            same("told(" + what + ")", x.told(what), due[what]);
        }
    }

    boolean allRight() {
        return wrong == 0;
    }

    void end() {
        System.out.println(asked + " answers looked at, " + wrong + " not as due");
        if (wrong != 0 || asked == 0) {
            System.exit(1);
        }
    }
}

/** Counts answers that are not as due, and ends a test's run. */
final class Check {
    private static final int MOST_PRINTED = 40;

    private int wrong = 0;
    private int asked = 0;
    private String where = "";

    void at(String place) {
        where = place;
    }

    void same(String call, long got, long due) {
        asked++;
        if (got != due) {
            wrong++;
            if (wrong <= MOST_PRINTED) {
                System.out.println(where + ": " + call + " answered " + got + ", due is " + due);
            }
        }
    }

    void same(String call, boolean got, boolean due) {
        same(call, got ? 1 : 0, due ? 1 : 0);
    }

    boolean allRight() {
        return wrong == 0;
    }

    void end() {
        System.out.println(asked + " answers looked at, " + wrong + " not as due");
        if (wrong != 0 || asked == 0) {
            System.exit(1);
        }
    }
}

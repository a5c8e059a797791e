/** Counts and prints the calls whose answer is not the one that is due. */
final class Check {
    private static final int MOST_PRINTED = 40;

    private int wrong = 0;
    private String place = "";

    /** Names what the following checks belong to. */
    void at(String newPlace) {
        place = newPlace;
    }

    void due(String call, int got, int want) {
        if (got != want) {
            report(call + " answered " + got + ", due is " + want);
        }
    }

    void due(String call, boolean got, boolean want) {
        if (got != want) {
            report(call + " answered " + got + ", due is " + want);
        }
    }

    void report(String what) {
        wrong++;
        if (wrong <= MOST_PRINTED) {
            System.out.println(place + ": " + what);
        }
    }

    boolean isClean() {
        return wrong == 0;
    }

    void finish() {
        System.out.println(wrong == 0 ? "all answers are as due" : wrong + " answers are not as due");
        if (wrong != 0) {
            System.exit(1);
        }
    }
}

/** Counts the answers that are not as due, for one test. */
final class Due {
    private final String test;
    private int looked = 0;
    private int wrong = 0;

    Due(String test) {
        this.test = test;
    }

    void number(String what, long got, long want) {
        looked++;
        if (got != want) {
            wrong++;
            System.out.println(test + ": " + what + " answered " + got + ", due is " + want);
        }
    }

    void text(String what, String got, String want) {
        looked++;
        if (!got.equals(want)) {
            wrong++;
            System.out.println(test + ": " + what + " showed" + System.lineSeparator() + "  " + got
                + System.lineSeparator() + "due is" + System.lineSeparator() + "  " + want);
        }
    }

    void yes(String what, boolean got) {
        number(what, got ? 1 : 0, 1);
    }

    void no(String what, boolean got) {
        number(what, got ? 1 : 0, 0);
    }

    void end() {
        System.out.println(test + ": " + looked + " answers looked at, " + wrong + " not as due");
        if (wrong != 0 || looked == 0) {
            System.exit(1);
        }
    }
}

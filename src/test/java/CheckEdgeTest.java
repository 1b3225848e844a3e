/** Promises 10 to 13: a test for each sentence that names a boundary case, with the sentence over it. */
public final class CheckEdgeTest {
    private static final int MIN = Integer.MIN_VALUE;
    private static final int MAX = Integer.MAX_VALUE;
    private static final int LEAVES = AllocChecker.LEAVES;
    /** For a program of 3: just outside, and what an index, a shift or a mask could take for a position inside. */
    private static final int[] NOT_POSITIONS = {-1, 3, 4, 13, 14, 15, 16, 32, 33, 256, -14, -32, MIN, MIN + 1, MAX};
    private static final Due due = new Due("CheckEdgeTest");

    public static void main(String[] args) {
        anEmptyProgramIsNotSound();
        noFaultsOutside();
        noFaultsWhereThereAreNone();
        notReachedOutside();
        nothingCarriedOutside();
        nothingCarriedByNoPlace();
        nothingWhereNoWalkComes();
        nothingWhereNoWalkComesAnyMore();
        everythingCarriedEverywhere();
        theLastPositionIsInside();
        due.end();
    }

    /** Promise 10: "Whether the program is SOUND", which an empty one is not. */
    private static void anEmptyProgramIsNotSound() {
        due.no("a new one", new AllocChecker().sound());
        due.yes("a program", Sample.counting().sound());
        due.no("one with all taken away", Sample.takenAway().sound());
    }

    /** Three instructions that are reached and have a fault each. */
    private static AllocChecker faulty() {
        AllocChecker x = new AllocChecker();
        x.flow(0, -1);
        x.add(16, 64);
        x.out(3, 4);
        return x;
    }

    /** Promise 11: "0 when .. p is not 0 .. length() - 1" */
    private static void noFaultsOutside() {
        AllocChecker x = faulty();
        for (int p : NOT_POSITIONS) {
            due.number("faults(" + p + ")", x.faults(p), 0);
        }
        for (int p = 0; p < 3; p++) {
            due.yes("faults(" + p + ") inside", x.faults(p) != 0);
        }
        x.drop();
        due.number("faults of what was dropped", x.faults(2), 0);
        x.drop();
        x.drop();
        due.number("faults(0) of nothing", x.faults(0), 0);
    }

    /** Promise 11: "0 when none" */
    private static void noFaultsWhereThereAreNone() {
        AllocChecker x = Sample.counting();
        for (int p = 0; p < 6; p++) {
            due.number("faults(" + p + ")", x.faults(p), 0);
        }
    }

    /** Promise 12: "false when p is not 0 .. length() - 1" */
    private static void notReachedOutside() {
        AllocChecker x = faulty();
        for (int p : NOT_POSITIONS) {
            due.no("reached(" + p + ")", x.reached(p));
        }
        for (int p = 0; p < 3; p++) {
            due.yes("reached(" + p + ") inside", x.reached(p));
        }
        x.drop();
        due.no("what was dropped", x.reached(2));
        x.drop();
        x.drop();
        due.no("reached(0) of nothing", x.reached(0));
    }

    /** Promise 13: "0 when .. p is not 0 .. length() - 1" */
    private static void nothingCarriedOutside() {
        AllocChecker x = new AllocChecker();
        x.set(0, 0, 1);
        x.move(1, 0);
        x.flow(0, 0);
        for (int p : NOT_POSITIONS) {
            for (int q = 0; q < 5; q++) {
                due.number("carries(" + p + ", " + q + ")", x.carries(p, q), 0);
            }
        }
        due.number("carries(0, 1) inside", x.carries(0, 1), 16);
        due.number("carries(2, 1) inside", x.carries(2, 1), 17);
        x.drop();
        due.number("what was dropped", x.carries(2, 1), 0);
        x.drop();
        x.drop();
        due.number("carries(0, 0) of nothing", x.carries(0, 0), 0);
    }

    /** Every place carries every value at position 8. */
    private static AllocChecker allInAll() {
        AllocChecker x = new AllocChecker();
        x.set(0, 0, 1);
        for (int v = 1; v < 4; v++) {
            x.same(v, 0);
        }
        for (int p = 1; p < 5; p++) {
            x.move(p, 0);
        }
        x.flow(2, 0);
        return x;
    }

    /** Promise 13: "0 when .. q is not 0 .. 4" */
    private static void nothingCarriedByNoPlace() {
        AllocChecker x = allInAll();
        for (int q : Calls.NOT_PLACES) {
            due.number("carries(8, " + q + ")", x.carries(8, q), 0);
            due.number("carries(9, " + q + ")", x.carries(9, q), 0);
            due.number("carries(-1, " + q + ")", x.carries(-1, q), 0);
        }
    }

    /** Promise 13: eight bits for each place, and none of another place's. */
    private static void everythingCarriedEverywhere() {
        AllocChecker x = allInAll();
        for (int q = 0; q < 5; q++) {
            due.number("carries(8, " + q + ")", x.carries(8, q), 255);
            due.number("carries(3, " + q + ")", x.carries(3, q), q == 0 ? 7 * 17 : 0);
            due.number("carries(6, " + q + ")", x.carries(6, q), q < 3 ? 255 : 0);
        }
    }

    /** Promises 11, 12 and 13: "0 when no walk reaches p", "Whether some walk reaches position p" */
    private static void nothingWhereNoWalkComes() {
        AllocChecker x = new AllocChecker();
        x.set(0, 0, 1);
        x.flow(1, 4);
        x.out(1, 1);
        x.flow(1, 99);
        x.flow(2, 0);
        x.out(1, 1);
        for (int p : new int[] {2, 3, 5}) {
            due.no("reached(" + p + ")", x.reached(p));
            due.number("faults(" + p + ")", x.faults(p), 0);
            for (int q = 0; q < 5; q++) {
                due.number("carries(" + p + ", " + q + ")", x.carries(p, q), 0);
            }
        }
        due.yes("reached(4)", x.reached(4));
        due.number("carries(4, 0)", x.carries(4, 0), 17);
    }

    /** The same for positions that were reached until the instruction that led there was dropped. */
    private static void nothingWhereNoWalkComesAnyMore() {
        AllocChecker x = new AllocChecker();
        x.set(0, 0, 1);
        x.flow(1, 4);
        x.out(1, 1);
        x.flow(1, 99);
        x.flow(1, 2);
        for (int p = 2; p < 5; p++) {
            due.yes("reached(" + p + ")", x.reached(p));
            due.number("carries(" + p + ", 0)", x.carries(p, 0), 17);
        }
        due.yes("faults(2) and faults(3)", x.faults(2) != 0 && x.faults(3) == LEAVES);
        x.drop();
        x.flow(2, 0);
        for (int p = 2; p < 4; p++) {
            due.no("no more reached(" + p + ")", x.reached(p));
            due.number("no more carries(" + p + ", 0)", x.carries(p, 0), 0);
            due.number("no more faults(" + p + ")", x.faults(p), 0);
        }
        due.yes("sound without them", x.sound());
    }

    /** "0 .. length() - 1", the greatest length with it. */
    private static void theLastPositionIsInside() {
        AllocChecker x = new AllocChecker();
        for (int last = 0; last < 14; last++) {
            x.set(3, 4, last);
            due.yes("reached(" + last + ")", x.reached(last));
            due.number("faults(" + last + ")", x.faults(last), LEAVES);
            due.number("carries(" + last + ", 4)", x.carries(last, 4), last == 0 ? 0 : 17 << 3);
            due.no("reached(" + (last + 1) + ")", x.reached(last + 1));
            due.number("faults(" + (last + 1) + ")", x.faults(last + 1), 0);
            due.number("carries(" + (last + 1) + ", 4)", x.carries(last + 1, 4), 0);
        }
    }
}

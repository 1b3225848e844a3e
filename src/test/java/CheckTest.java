/** Promises 10 to 13: sound, faults, reached and carries. */
public final class CheckTest {
    private static final int FIRST = AllocChecker.FIRST;
    private static final int SECOND = AllocChecker.SECOND;
    private static final int LEAVES = AllocChecker.LEAVES;
    private static final Due due = new Due("CheckTest");

    public static void main(String[] args) {
        operandsAreLookedFor();
        setAndAddTakeAPlaceOver();
        moveCarriesOver();
        sameCarriesOver();
        machineAndSourceSidesAreKeptApart();
        forksJoin();
        loopsComeBack();
        longChainOfLoops();
        walksAgainstTheOrderOfPositions();
        lossesAndGainsOfLaterRounds();
        faultsDoNotEndAWalk();
        due.end();
    }

    private static void operandsAreLookedFor() {
        AllocChecker x = new AllocChecker();
        x.out(0, 0);
        x.flow(2, 0);
        due.number("nothing is carried at first", x.faults(0), FIRST);
        x = addOf(true, true);
        due.number("both there", x.faults(2), 0);
        x = addOf(false, true);
        due.number("a is not there", x.faults(2), FIRST);
        x = addOf(true, false);
        due.number("b is not there", x.faults(2), SECOND);
        due.no("sound without b", x.sound());
        x = addOf(false, false);
        due.number("none is there", x.faults(2), FIRST + SECOND);
        x.drop();
        due.number("none is there, at the end", x.faults(2), FIRST + SECOND + LEAVES);

        x = new AllocChecker();
        x.set(1, 1, 5);
        x.out(1, 2);
        due.number("in another place", x.faults(1), FIRST + LEAVES);
        x.drop();
        x.out(0, 1);
        due.number("another value", x.faults(1), FIRST + LEAVES);
        x.drop();
        x.out(1, 1);
        due.number("the right one", x.faults(1), LEAVES);
    }

    /** ADD 3, 1, 2 into place 4, with 1 in place 0 and 2 in place 3, looked for there or elsewhere. */
    private static AllocChecker addOf(boolean aIsThere, boolean bIsThere) {
        AllocChecker x = new AllocChecker();
        x.set(1, 0, 5);
        x.set(2, 3, 6);
        x.add(3 + 4 * 1 + 16 * 2, 4 + 8 * (aIsThere ? 0 : 3) + 64 * (bIsThere ? 3 : 0));
        x.flow(2, 0);
        return x;
    }

    private static void setAndAddTakeAPlaceOver() {
        for (int withAdd = 0; withAdd < 2; withAdd++) {
            AllocChecker x = new AllocChecker();
            x.set(0, 0, 1);
            x.set(1, 1, 2);
            x.move(2, 0);
            x.same(2, 1);
            if (withAdd == 0) x.set(0, 1, 3);
            if (withAdd == 1) x.add(0 + 4 * 1 + 16 * 2, 1 + 8 * 1 + 64 * 1);
            x.flow(2, 0);
            due.number("before: place 0", x.carries(4, 0), 17);
            due.number("before: place 1", x.carries(4, 1), 17 * 6);
            due.number("before: place 2", x.carries(4, 2), 17);
            due.number("after: old copies carry it no more", x.carries(5, 0), 0);
            due.number("after: the place carries it alone", x.carries(5, 1), 17);
            due.number("after: the other copy too", x.carries(5, 2), 0);
            due.number("after: an untouched place", x.carries(5, 3), 0);
            due.yes("all in order", x.sound());
        }
    }

    private static void moveCarriesOver() {
        AllocChecker x = new AllocChecker();
        x.set(0, 0, 1);
        x.same(3, 0);
        x.set(1, 4, 2);
        x.move(4, 0);
        x.move(0, 2);
        x.move(4, 4);
        x.flow(2, 0);
        due.number("what q carried", x.carries(4, 4), 17 * 9);
        due.number("q keeps it", x.carries(4, 0), 17 * 9);
        due.number("a move of nothing", x.carries(5, 0), 0);
        due.number("a move to itself", x.carries(6, 4), 17 * 9);
    }

    private static void sameCarriesOver() {
        AllocChecker x = new AllocChecker();
        x.set(0, 0, 1);
        x.move(3, 0);
        x.set(1, 1, 2);
        x.same(1, 0);
        x.same(0, 2);
        x.same(1, 1);
        x.flow(2, 0);
        due.number("where a is, v is", x.carries(4, 0), 17 * 3);
        due.number("there too", x.carries(4, 3), 17 * 3);
        due.number("where only v was, it is no more", x.carries(4, 1), 0);
        due.number("the same as nothing", x.carries(5, 0), 17 * 2);
        due.number("there too", x.carries(5, 3), 17 * 2);
        due.number("the same as itself", x.carries(6, 3), 17 * 2);
    }

    private static void machineAndSourceSidesAreKeptApart() {
        AllocChecker x = new AllocChecker();
        x.set(0, 0, 5);
        x.set(1, 1, 5);
        x.out(1, 0);
        x.flow(2, 0);
        due.number("equal numbers are not the same value", x.faults(2), FIRST);
    }

    private static void forksJoin() {
        AllocChecker x = new AllocChecker();
        x.set(0, 0, 1);
        x.set(1, 1, 2);
        x.flow(0, 5);
        x.move(2, 0);
        x.flow(1, 7);
        x.move(2, 1);
        x.move(3, 1);
        x.out(0, 2);
        x.flow(2, 0);
        due.number("on one walk 0, on the other 1", x.carries(7, 2), 48);
        due.number("on one walk 1, on the other nothing", x.carries(7, 3), 32);
        due.number("on both", x.carries(7, 1), 34);
        due.number("one walk is enough for a fault", x.faults(7), FIRST);
        due.number("on the one walk alone", x.carries(4, 2), 17);
        due.number("on the other walk alone", x.carries(6, 2), 34);
        due.no("not sound", x.sound());
    }

    private static void loopsComeBack() {
        AllocChecker x = new AllocChecker();
        x.set(0, 0, 1);
        x.out(0, 0);
        x.set(1, 0, 2);
        x.flow(0, 1);
        x.flow(2, 0);
        due.number("the second time it is another", x.carries(1, 0), 16 + 32);
        due.number("a fault of the second time", x.faults(1), FIRST);

        x = new AllocChecker();
        x.set(0, 0, 1);
        x.flow(0, 0);
        x.flow(2, 0);
        due.number("position 0 at first and again", x.carries(0, 0), 16);
        due.number("behind it", x.carries(1, 0), 17);
    }

    /**
     * What places 1 to 4 carry at position 5: 1 | 2 | 3 | 0 at first, then - | 0 | 1 | 2 3, then - | - | - | 0,
     * then nothing: three rounds are needed to see it all.
     */
    private static void longChainOfLoops() {
        AllocChecker x = new AllocChecker();
        for (int v = 0; v < 4; v++) {
            x.set(v, v, v);
        }
        x.set(0, 4, 7);
        x.move(4, 3);
        x.move(3, 2);
        x.move(2, 1);
        x.move(1, 0);
        x.same(0, 1);
        x.same(1, 2);
        x.same(2, 3);
        x.flow(0, 5);
        x.flow(2, 0);
        due.number("place 0", x.carries(5, 0), 0);
        due.number("place 1", x.carries(5, 1), 32);
        due.number("place 2", x.carries(5, 2), 16 + 64);
        due.number("place 3", x.carries(5, 3), 32 + 128);
        due.number("place 4", x.carries(5, 4), 16 + 64 + 128);
    }

    private static void walksAgainstTheOrderOfPositions() {
        AllocChecker x = new AllocChecker();
        x.flow(1, 13);
        x.out(0, 0);
        for (int p = 2; p < 13; p++) {
            x.flow(1, p - 1);
        }
        x.flow(1, 12);
        for (int p = 0; p < 14; p++) {
            due.yes("reached from behind: " + p, x.reached(p));
        }
        due.number("the fault at the far end", x.faults(1), FIRST);
    }

    private static void lossesAndGainsOfLaterRounds() {
        AllocChecker x = new AllocChecker();
        x.set(0, 0, 1);
        x.move(1, 0);
        x.move(2, 0);
        x.out(0, 0);
        x.move(0, 1);
        x.move(1, 2);
        x.move(2, 3);
        x.flow(0, 3);
        x.flow(2, 0);
        due.number("lost in the third round", x.carries(3, 0), 16);
        due.number("and so a fault", x.faults(3), FIRST);

        x = new AllocChecker();
        x.set(0, 0, 1);
        x.move(4, 3);
        x.move(3, 2);
        x.move(2, 1);
        x.move(1, 0);
        x.flow(0, 1);
        x.flow(2, 0);
        for (int q = 0; q < 5; q++) {
            due.number("gained in round " + q, x.carries(1, q), q == 0 ? 17 : 16);
        }
    }

    private static void faultsDoNotEndAWalk() {
        AllocChecker x = new AllocChecker();
        x.out(0, 0);
        x.add(16, 64);
        x.flow(0, 99);
        x.out(0, 0);
        x.flow(2, 0);
        due.number("a fault", x.faults(0), FIRST);
        due.number("the next", x.faults(1), FIRST + SECOND);
        due.number("a fork that leaves one way", x.faults(2), LEAVES);
        due.yes("goes on the other", x.reached(3));
        due.number("what a faulty ADD wrote is carried", x.carries(3, 0), 17);
        due.number("and may be put out", x.faults(3), 0);
    }
}

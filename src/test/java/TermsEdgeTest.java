/** The section 'Terms': a test for each sentence that names a boundary case, with the sentence over it. */
public final class TermsEdgeTest {
    private static final int MIN = Integer.MIN_VALUE;
    private static final int MAX = Integer.MAX_VALUE;
    private static final int FIRST = AllocChecker.FIRST;
    private static final int SECOND = AllocChecker.SECOND;
    private static final int LEAVES = AllocChecker.LEAVES;
    private static final Due due = new Due("TermsEdgeTest");

    public static void main(String[] args) {
        atMostFourteenInstructions();
        allFourteenAreWalkedAndRun();
        sumsWrap();
        aWalkBeginsAtZero();
        aWalkEndsAtAStop();
        aWalkEndsBehindTheLast();
        aWalkEndsBeforeATargetOutside();
        theEndMovesWithTheLength();
        atFirstNoPlaceCarriesAny();
        leavingBehindTheLast();
        leavingByAJump();
        leavingByAForkEitherWay();
        aStopNeverLeaves();
        faultsOnlyWhereAWalkReaches();
        soundWhenNotEmpty();
        soundWhenNoFaultIsNoted();
        due.end();
    }

    /** "A program is a list of at most 14 instructions at positions 0, 1, .." */
    private static void atMostFourteenInstructions() {
        for (Calls.Call call : Calls.oneOfEach()) {
            AllocChecker x = new AllocChecker();
            for (int position = 0; position < 14; position++) {
                due.number(call.words() + " as number " + position, call.on(x), position);
                due.number("length behind it", x.length(), position + 1);
            }
            due.number(call.words() + " as number 14", call.on(x), AllocChecker.FULL);
            due.number("length of a full program", x.length(), 14);
            due.number("a place made free", x.drop(), 13);
            due.number(call.words() + " in the free place", call.on(x), 13);
            due.number(call.words() + " behind it", call.on(x), AllocChecker.FULL);
        }
    }

    private static void allFourteenAreWalkedAndRun() {
        AllocChecker x = new AllocChecker();
        x.set(3, 0, 77);
        for (int i = 0; i < 11; i++) {
            x.move((i + 1) % 5, i % 5);
        }
        x.out(3, 1);
        due.number("the fourteenth", x.flow(2, 0), 13);
        for (int p = 0; p < 14; p++) {
            due.yes("reached(" + p + ")", x.reached(p));
        }
        due.number("carried to the last", x.carries(13, 1), 17 << 3);
        due.yes("14 are sound", x.start(0));
        due.number("14 are carried out", x.step(64), 14);
        due.number("the thirteenth puts out", x.lastOut(0), 77);
        due.number("the fourteenth stops", x.status(), AllocChecker.STOPPED);
    }

    /** "Sums wrap." */
    private static void sumsWrap() {
        sum(MAX, 1, MIN);
        sum(1, MAX, MIN);
        sum(MAX, MAX, -2);
        sum(MIN, -1, MAX);
        sum(-1, MIN, MAX);
        sum(MIN, MIN, 0);
        sum(MIN, MAX, -1);
        sum(MAX, 0, MAX);
        sum(MIN, 0, MIN);
        sum(-1, 1, 0);
    }

    private static void sum(int a, int b, int want) {
        AllocChecker x = new AllocChecker();
        x.set(0, 0, a);
        x.set(1, 1, b);
        x.add(2 + 4 * 0 + 16 * 1, 2 + 8 * 0 + 64 * 1);
        x.out(2, 2);
        x.flow(2, 0);
        x.start(0);
        x.step(5);
        due.number(a + " + " + b, x.lastOut(0), want);
    }

    /** "A WALK begins at position 0": even where nothing leads back to it. */
    private static void aWalkBeginsAtZero() {
        for (Calls.Call call : Calls.oneOfEach()) {
            AllocChecker x = new AllocChecker();
            due.no("position 0 of nothing", x.reached(0));
            call.on(x);
            due.yes("position 0, " + call.words(), x.reached(0));
        }
    }

    /** "It ends at a STOP" */
    private static void aWalkEndsAtAStop() {
        for (int t : new int[] {0, 1, 2, 3, -1, MIN, MAX}) {
            AllocChecker x = new AllocChecker();
            x.set(0, 0, 1);
            x.flow(2, t);
            x.set(0, 0, 2);
            x.flow(2, t);
            due.yes("reached(1), a STOP with t " + t, x.reached(1));
            due.no("reached(2), behind a STOP with t " + t, x.reached(2));
            due.no("reached(3), behind a STOP with t " + t, x.reached(3));
            due.number("carries(0, 0), a STOP with t " + t, x.carries(0, 0), 0);
        }
    }

    /** "and before a position that is not 0 .. length() - 1": behind the last instruction. */
    private static void aWalkEndsBehindTheLast() {
        AllocChecker x = new AllocChecker();
        for (int length = 1; length <= 14; length++) {
            x.set(length % 4, length % 5, length);
            due.yes("the last of " + length, x.reached(length - 1));
            due.no("behind the last of " + length, x.reached(length));
            due.number("a walk does not begin again after " + length, x.carries(0, 1), 0);
        }
    }

    /** "and before a position that is not 0 .. length() - 1": as the target of a FORK or a JUMP. */
    private static void aWalkEndsBeforeATargetOutside() {
        for (int t : new int[] {4, 5, 13, 14, 15, 16, 32, -1, -2, -14, -16, MIN, MIN + 1, MAX}) {
            for (int kind = 0; kind < 2; kind++) {
                AllocChecker x = new AllocChecker();
                x.set(0, 0, 1);
                x.flow(kind, t);
                x.set(1, 1, 1);
                x.flow(2, 0);
                String way = "flow(" + kind + ", " + t + ")";
                due.yes(way + " itself", x.reached(1));
                due.number("behind " + way, x.reached(2) ? 1 : 0, kind == 0 ? 1 : 0);
                due.number("the end behind " + way, x.reached(3) ? 1 : 0, kind == 0 ? 1 : 0);
                due.number("not back to 0 by " + way, x.carries(0, 0), 0);
            }
        }
    }

    /** A position is outside or inside by the length of now, not by the length when its target was given. */
    private static void theEndMovesWithTheLength() {
        AllocChecker x = new AllocChecker();
        x.flow(1, 2);
        x.flow(1, 0);
        due.number("JUMP 2 of 2", x.faults(0), LEAVES);
        x.flow(1, 1);
        due.number("JUMP 2 of 3", x.faults(0), 0);
        due.yes("reached by it", x.reached(2));
        due.yes("and from there", x.reached(1));
        due.yes("sound of 3", x.sound());
        x.drop();
        due.number("JUMP 2 of 2 again", x.faults(0), LEAVES);
        due.no("no walk comes there any more", x.reached(1));
        due.no("sound of 2", x.sound());
    }

    /** "at first no place carries any" */
    private static void atFirstNoPlaceCarriesAny() {
        AllocChecker x = new AllocChecker();
        x.flow(2, 0);
        for (int q = 0; q < 5; q++) {
            due.number("carries(0, " + q + ")", x.carries(0, q), 0);
        }
        for (int v = 0; v < 4; v++) {
            for (int q = 0; q < 5; q++) {
                x = new AllocChecker();
                x.out(v, q);
                x.flow(2, 0);
                due.number("out(" + v + ", " + q + ") at first", x.faults(0), FIRST);
            }
        }
    }

    /** "LEAVES, when a next position of the instruction there is not 0 .. length() - 1" */
    private static void leavingBehindTheLast() {
        Calls.Call[] goOn = {Calls.set(0, 0, 0), Calls.add(0, 0), Calls.move(0, 0), Calls.out(0, 0), Calls.same(0, 0)};
        for (Calls.Call last : goOn) {
            for (int before = 1; before < 14; before++) {
                AllocChecker x = new AllocChecker();
                for (int i = 0; i < before; i++) {
                    x.set(0, 0, i);
                }
                last.on(x);
                String words = last.words() + " as the last, at " + before;
                due.number(words, x.faults(before), LEAVES);
                due.number("before " + words, x.faults(before - 1), 0);
                due.no("sound, " + words, x.sound());
                if (before < 13) {
                    x.flow(2, 0);
                    due.number("no more " + words, x.faults(before), 0);
                    due.yes("sound, no more " + words, x.sound());
                }
            }
        }
    }

    private static void leavingByAJump() {
        for (int length = 1; length <= 14; length++) {
            for (int t : new int[] {-1, 0, length - 1, length, length + 1, 14, MIN, MAX}) {
                AllocChecker x = new AllocChecker();
                x.flow(1, t);
                for (int i = 1; i < length; i++) {
                    x.flow(2, 0);
                }
                boolean isInside = t >= 0 && t < length;
                due.number("JUMP " + t + " of " + length, x.faults(0), isInside ? 0 : LEAVES);
                due.number("sound, JUMP " + t + " of " + length, x.sound() ? 1 : 0, isInside ? 1 : 0);
            }
        }
        AllocChecker x = new AllocChecker();
        x.flow(0, 0);
        x.flow(1, 0);
        due.number("a JUMP as the last does not go on behind it", x.faults(1), 0);
        due.yes("sound with it", x.sound());
    }

    /** "(for FORK: either of the two)" */
    private static void leavingByAForkEitherWay() {
        forkAsTheLast(0, 0, LEAVES);
        forkAsTheLast(13, 0, LEAVES);
        forkAsTheLast(13, 13, LEAVES);
        forkAsTheLast(13, 14, LEAVES);
        forkAsTheLast(0, 1, LEAVES);
        forkAsTheLast(0, -1, LEAVES);
        forkBeforeAStop(0, 0, 0);
        forkBeforeAStop(0, 1, 0);
        forkBeforeAStop(0, 2, LEAVES);
        forkBeforeAStop(12, 13, 0);
        forkBeforeAStop(12, 12, 0);
        forkBeforeAStop(12, 14, LEAVES);
        forkBeforeAStop(12, 0, 0);
        forkBeforeAStop(12, -1, LEAVES);
        forkBeforeAStop(0, MIN, LEAVES);
        forkBeforeAStop(0, MAX, LEAVES);
    }

    private static AllocChecker forkAt(int at, int t) {
        AllocChecker x = new AllocChecker();
        for (int i = 0; i < at; i++) {
            x.set(0, 0, i);
        }
        x.flow(0, t);
        return x;
    }

    private static void forkAsTheLast(int at, int t, int want) {
        AllocChecker x = forkAt(at, t);
        due.number("FORK " + t + " as the last, at " + at, x.faults(at), want);
        due.no("sound with it", x.sound());
    }

    private static void forkBeforeAStop(int at, int t, int want) {
        AllocChecker x = forkAt(at, t);
        x.flow(2, 0);
        due.number("FORK " + t + " at " + at + " before a STOP", x.faults(at), want);
        due.yes("it goes on at the next all the same", x.reached(at + 1));
        due.number("sound with it", x.sound() ? 1 : 0, want == 0 ? 1 : 0);
    }

    private static void aStopNeverLeaves() {
        for (int t : Calls.ANY_INTS) {
            for (int at = 0; at < 14; at += 13) {
                AllocChecker x = new AllocChecker();
                for (int i = 0; i < at; i++) {
                    x.set(0, 0, i);
                }
                x.flow(2, t);
                due.number("STOP with t " + t + " at " + at, x.faults(at), 0);
                due.yes("sound with it", x.sound());
            }
        }
    }

    /** "Faults are noted only at positions that some walk reaches." */
    private static void faultsOnlyWhereAWalkReaches() {
        AllocChecker x = new AllocChecker();
        x.flow(1, 4);
        x.out(0, 0);
        x.add(16, 64);
        x.flow(0, -1);
        x.flow(2, 0);
        x.flow(1, 77);
        x.add(16, 64);
        for (int p : new int[] {1, 2, 3, 5, 6}) {
            due.no("reached(" + p + ")", x.reached(p));
            due.number("faults(" + p + ")", x.faults(p), 0);
        }
        due.yes("sound with all of them", x.sound());

        x = new AllocChecker();
        x.flow(0, 4);
        x.out(0, 0);
        x.add(16, 64);
        x.flow(0, -1);
        x.flow(2, 0);
        due.number("OUT when a walk reaches it", x.faults(1), FIRST);
        due.number("ADD when a walk reaches it", x.faults(2), FIRST + SECOND);
        due.number("FORK when a walk reaches it", x.faults(3), LEAVES);
        due.no("sound with them", x.sound());
    }

    /** "The program is SOUND when it is not empty" */
    private static void soundWhenNotEmpty() {
        AllocChecker x = new AllocChecker();
        due.no("nothing", x.sound());
        x.flow(2, 0);
        due.yes("one STOP", x.sound());
        x.drop();
        due.no("nothing again", x.sound());
        x.flow(1, 0);
        due.yes("one JUMP to itself, which never ends", x.sound());
    }

    /** "and no fault is noted": one fault of one kind, at the first or the last position, is enough. */
    private static void soundWhenNoFaultIsNoted() {
        for (int at = 0; at < 13; at++) {
            AllocChecker x = new AllocChecker();
            for (int i = 0; i < 13; i++) {
                due.number("before the end", i == at ? x.out(0, 0) : x.move(0, 0), i);
            }
            x.flow(2, 0);
            due.number("FIRST at " + at, x.faults(at), FIRST);
            due.no("sound with FIRST at " + at, x.sound());
        }
        AllocChecker x = new AllocChecker();
        x.set(0, 0, 1);
        x.add(1 + 4 * 0 + 16 * 1, 1 + 8 * 0 + 64 * 1);
        x.flow(2, 0);
        due.number("SECOND alone", x.faults(1), SECOND);
        due.no("sound with SECOND alone", x.sound());
        x = new AllocChecker();
        x.set(0, 0, 1);
        due.number("LEAVES alone", x.faults(0), LEAVES);
        due.no("sound with LEAVES alone", x.sound());
        x.add(1 + 4 * 2 + 16 * 3, 1);
        due.number("all three", x.faults(1), FIRST + SECOND + LEAVES);
        due.no("sound with all three", x.sound());
    }
}

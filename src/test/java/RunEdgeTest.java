/** Promises 14 to 18: a test for each sentence that names a boundary case, with the sentence over it. */
public final class RunEdgeTest {
    private static final int MIN = Integer.MIN_VALUE;
    private static final int MAX = Integer.MAX_VALUE;
    private static final int IDLE = AllocChecker.IDLE;
    private static final int RUNNING = AllocChecker.RUNNING;
    private static final int STOPPED = AllocChecker.STOPPED;
    private static final Due due = new Due("RunEdgeTest");

    public static void main(String[] args) {
        eachBitDecidesEvery32ndFork();
        allForksAreCountedTogether();
        startOfWhatIsNotSoundIsFalse();
        startForgetsARunOfAnyStatus();
        stepBelow0CountsAs0();
        stepAbove64CountsAs64();
        stepWithoutARunningRun();
        aStopCounts();
        nothingBehindAStopIsCarriedOut();
        outsIs0WhenIdle();
        outsCountsOnPastEight();
        lastOutOfAnotherK();
        lastOutOfNotSoMany();
        lastOutOfMoreThanEight();
        lastOutWhenIdle();
        lastOutOfAnEarlierRun();
        due.end();
    }

    /** Promise 14: "the k-th FORK .. will go on at its t when bit (k mod 32) of choices is 1, else at the next" */
    private static void eachBitDecidesEvery32ndFork() {
        for (int choices : new int[] {0, -1, MIN, MAX, 1, 2, 1 << 15, 1 << 30, 3 << 30, 0x9A3C5E71}) {
            AllocChecker x = deciding();
            due.yes("start(" + choices + ")", x.start(choices));
            x.step(2);
            for (int k = 0; k < 100; k++) {
                due.number("a round of " + choices, x.step(3), 3);
                due.number("decision " + k + " of " + choices, x.lastOut(0), (choices >>> (k % 32)) & 1);
            }
        }
    }

    /** Behind two steps, a loop of three that puts out 1 when its FORK goes to t and 0 when it goes on. */
    private static AllocChecker deciding() {
        AllocChecker x = new AllocChecker();
        x.set(0, 0, 0);
        x.set(1, 1, 1);
        x.flow(0, 5);
        x.out(0, 0);
        x.flow(1, 2);
        x.out(1, 1);
        x.flow(1, 2);
        return x;
    }

    /** Promise 14: k counts the FORKs carried out, whichever they are, and not the positions or the steps. */
    private static void allForksAreCountedTogether() {
        AllocChecker x = new AllocChecker();
        x.flow(0, 0);
        x.flow(0, 1);
        x.flow(2, 0);
        decidesIn(x, 0, 3);
        decidesIn(x, 1, 4);
        decidesIn(x, 2, 4);
        decidesIn(x, 3, 5);
        decidesIn(x, 4, 3);
        decidesIn(x, MIN, 3);
        x.start(MAX);
        due.number("31 times back, then on", x.step(32), 32);
        due.number("the other FORK takes bit 0 again", x.step(64), 31 + 1 + 1);
        x.start(-1);
        due.number("always back", x.step(64), 64);
        due.number("and back", x.status(), RUNNING);
    }

    private static void decidesIn(AllocChecker x, int choices, int steps) {
        x.start(choices);
        due.number("steps with " + choices, x.step(64), steps);
        due.number("the end with " + choices, x.status(), STOPPED);
    }

    /** Promise 14: "false .. when the program is not SOUND" */
    private static void startOfWhatIsNotSoundIsFalse() {
        isNotStarted("nothing", new AllocChecker());
        AllocChecker x = new AllocChecker();
        x.set(0, 0, 1);
        isNotStarted("LEAVES", x);
        x = new AllocChecker();
        x.out(0, 0);
        x.flow(2, 0);
        isNotStarted("FIRST", x);
        x = new AllocChecker();
        x.set(0, 0, 1);
        x.add(1 + 4 * 0 + 16 * 1, 1);
        x.flow(2, 0);
        isNotStarted("SECOND", x);
        x = new AllocChecker();
        x.flow(2, 0);
        x.out(3, 3);
        due.yes("a fault that no walk reaches is none", x.start(0));
        due.number("status of a start", x.status(), RUNNING);
    }

    private static void isNotStarted(String why, AllocChecker x) {
        String before = Sample.seen(x);
        due.no("start with " + why, x.start(-1));
        due.number("status with " + why, x.status(), IDLE);
        due.number("step with " + why, x.step(64), 0);
        due.text("seen with " + why, Sample.seen(x), before);
    }

    /** Promise 14: "Starts a run from position 0, forgetting any other: RUNNING" */
    private static void startForgetsARunOfAnyStatus() {
        startsAnew("IDLE", Sample.counting());
        startsAnew("RUNNING", Sample.running());
        startsAnew("STOPPED", Sample.stopped());
    }

    private static void startsAnew(String status, AllocChecker x) {
        due.yes("start when " + status, x.start(1));
        due.number("status after a start when " + status, x.status(), RUNNING);
        due.number("outs after a start when " + status, x.outs(), 0);
        due.number("lastOut after a start when " + status, x.lastOut(0), 0);
        due.number("steps of the new run", x.step(64), 2 + 3 + 3 + 1);
        due.number("outs of the new run", x.outs(), 2);
        due.number("last of the new run", x.lastOut(0), 7);
        due.number("first of the new run", x.lastOut(1), 6);
    }

    /** Promise 15: "n below 0 counts as 0" */
    private static void stepBelow0CountsAs0() {
        AllocChecker x = Sample.running();
        String before = Sample.seen(x);
        for (int n : new int[] {0, -1, -2, -63, -64, -65, MIN, MIN + 1}) {
            due.number("step(" + n + ")", x.step(n), 0);
        }
        due.text("seen after them", Sample.seen(x), before);
        due.number("the rest of the run", x.step(64), 8);
    }

    /** Promise 15: "above 64 as 64" */
    private static void stepAbove64CountsAs64() {
        for (int n : new int[] {64, 65, 66, 127, 128, 1000, MAX - 1, MAX}) {
            AllocChecker x = Sample.counting();
            x.start(-1);
            x.step(2);
            due.number("step(" + n + ")", x.step(n), 64);
            due.number("outs of " + n, x.outs(), 21);
            due.number("step(" + n + ") again", x.step(n), 64);
            due.number("outs of " + n + " twice", x.outs(), 43);
        }
        for (int n : new int[] {1, 2, 62, 63}) {
            AllocChecker x = Sample.counting();
            x.start(-1);
            due.number("step(" + n + ")", x.step(n), n);
            due.number("outs of " + n, x.outs(), (n - 1) / 3);
        }
    }

    /** Promise 15: "as long as the run is RUNNING, and answers how many" */
    private static void stepWithoutARunningRun() {
        AllocChecker idle = Sample.running();
        idle.set(0, 0, 0);
        for (AllocChecker x : new AllocChecker[] {new AllocChecker(), Sample.counting(), idle, Sample.stopped()}) {
            String before = Sample.seen(x);
            int status = x.status();
            for (int n : new int[] {0, 1, 64, 65, -1, MIN, MAX}) {
                due.number("step(" + n + ") with status " + status, x.step(n), 0);
            }
            due.text("seen after steps with status " + status, Sample.seen(x), before);
        }
    }

    /** Promise 15: "A STOP counts; the run is then STOPPED." */
    private static void aStopCounts() {
        for (int n : new int[] {1, 2, 64, 65, MAX}) {
            AllocChecker x = Sample.ofLength(1);
            x.start(0);
            due.number("step(" + n + ") of a STOP", x.step(n), 1);
            due.number("status after it", x.status(), STOPPED);
            due.number("step after it", x.step(n), 0);
        }
        AllocChecker x = Sample.running();
        due.number("all before the STOP", x.step(7), 7);
        due.number("status before the STOP", x.status(), RUNNING);
        due.number("the STOP", x.step(1), 1);
        due.number("status after the STOP", x.status(), STOPPED);
        x = Sample.running();
        due.number("up to the STOP, just enough", x.step(8), 8);
        due.number("status after just enough", x.status(), STOPPED);
        x = Sample.running();
        due.number("up to the STOP, too many", x.step(9), 8);
        due.number("status after too many", x.status(), STOPPED);
        due.number("a STOP puts nothing out", x.outs(), 4);
        due.number("what was put out stays", x.lastOut(0), 9);
    }

    /** Promise 15: a STOP need not be the last instruction to be the end. */
    private static void nothingBehindAStopIsCarriedOut() {
        AllocChecker x = new AllocChecker();
        x.set(0, 0, 1);
        x.flow(0, 4);
        x.out(0, 0);
        x.flow(2, 4);
        x.out(0, 0);
        x.out(0, 0);
        x.flow(2, 0);
        x.start(0);
        due.number("up to the first STOP", x.step(64), 4);
        due.number("status at the first STOP", x.status(), STOPPED);
        due.number("step behind the first STOP", x.step(64), 0);
        due.number("outs at the first STOP", x.outs(), 1);
        x.start(1);
        due.number("up to the second STOP", x.step(64), 5);
        due.number("outs at the second STOP", x.outs(), 2);
    }

    /** Promise 17: "0 when IDLE" */
    private static void outsIs0WhenIdle() {
        due.number("outs of a new object", new AllocChecker().outs(), 0);
        due.number("outs before a start", Sample.counting().outs(), 0);
        AllocChecker x = Sample.running();
        due.number("outs of a run", x.outs(), 2);
        x.drop();
        due.number("outs after a drop", x.outs(), 0);
        x = Sample.stopped();
        due.number("outs at the end of a run", x.outs(), 4);
        x.move(0, 0);
        due.number("outs after a change", x.outs(), 0);
        due.number("it was IDLE", x.status(), IDLE);
    }

    private static void outsCountsOnPastEight() {
        AllocChecker x = Sample.counting();
        x.start(-1);
        x.step(2);
        for (int outs = 0; outs <= 150; outs++) {
            due.number("outs", x.outs(), outs);
            x.step(3);
        }
    }

    /** The loop that puts out 6, 7, .. , stopped nowhere, when so many are put out. */
    private static AllocChecker afterOuts(int outs) {
        AllocChecker x = Sample.counting();
        x.start(-1);
        x.step(2);
        for (int i = 0; i < outs; i++) {
            x.step(3);
        }
        return x;
    }

    /** Promise 18: "0 when .. k is another number" than 0 to 7 */
    private static void lastOutOfAnotherK() {
        for (int outs = 7; outs <= 40; outs++) {
            AllocChecker x = afterOuts(outs);
            for (int k : new int[] {-1, -2, -7, -8, -9, 8, 9, 15, 16, 32, MIN, MIN + 1, MAX - 1, MAX}) {
                due.number("lastOut(" + k + ") of " + outs, x.lastOut(k), 0);
            }
        }
    }

    /** Promise 18: "0 when there were not so many" */
    private static void lastOutOfNotSoMany() {
        for (int outs = 0; outs <= 8; outs++) {
            AllocChecker x = afterOuts(outs);
            for (int k = 0; k < 8; k++) {
                due.number("lastOut(" + k + ") of " + outs, x.lastOut(k), k < outs ? 5 + outs - k : 0);
            }
        }
    }

    /** Promise 18: "The number that was put out k before the last one .., for k from 0 to 7" */
    private static void lastOutOfMoreThanEight() {
        for (int outs = 9; outs <= 40; outs++) {
            AllocChecker x = afterOuts(outs);
            for (int k = 0; k < 8; k++) {
                due.number("lastOut(" + k + ") of " + outs, x.lastOut(k), 5 + outs - k);
            }
        }
    }

    /** Promise 18: "0 when .. IDLE" */
    private static void lastOutWhenIdle() {
        for (Calls.Call call : Calls.oneOfEach()) {
            AllocChecker x = afterOuts(9);
            call.on(x);
            for (int k = -1; k <= 8; k++) {
                due.number("lastOut(" + k + ") after " + call.words(), x.lastOut(k), 0);
            }
        }
        AllocChecker x = afterOuts(9);
        x.drop();
        for (int k = -1; k <= 8; k++) {
            due.number("lastOut(" + k + ") after a drop", x.lastOut(k), 0);
        }
    }

    /** Promises 14 and 18: what an earlier run has put out is not among "so many". */
    private static void lastOutOfAnEarlierRun() {
        AllocChecker x = afterOuts(9);
        x.start(-1);
        x.step(2);
        for (int outs = 0; outs <= 9; outs++) {
            for (int k = 0; k < 8; k++) {
                due.number("lastOut(" + k + ") of " + outs + " anew", x.lastOut(k), k < outs ? 5 + outs - k : 0);
            }
            x.step(3);
        }
    }
}

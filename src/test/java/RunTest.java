/** Promises 14 to 18: start, step, status, outs and lastOut. */
public final class RunTest {
    private static final int MAX = Integer.MAX_VALUE;
    private static final Due due = new Due("RunTest");

    public static void main(String[] args) {
        startForgetsTheOtherRun();
        everyOperationIsCarriedOut();
        aRunThatDoesNotEnd();
        askingDoesNotDisturb();
        due.end();
    }

    private static void startForgetsTheOtherRun() {
        AllocChecker x = new AllocChecker();
        x.same(1, 0);
        x.flow(0, 4);
        x.set(0, 0, 5);
        x.flow(1, 6);
        x.set(0, 0, 6);
        x.flow(1, 6);
        x.out(0, 0);
        x.flow(0, 0);
        x.flow(2, 0);
        due.yes("first start", x.start(-1));
        due.number("first steps", x.step(8), 8);
        due.number("first out", x.lastOut(0), 6);
        due.yes("second start", x.start(0));
        due.number("outs of the new run", x.outs(), 0);
        due.number("lastOut of the new run", x.lastOut(0), 0);
        due.number("steps of the new run", x.step(64), 7);
        due.number("out of the new run", x.lastOut(0), 5);
        due.number("outs of the new run", x.outs(), 1);
        due.number("stopped", x.status(), AllocChecker.STOPPED);
        due.yes("start after a stop", x.start(1));
        due.number("running again", x.status(), AllocChecker.RUNNING);
        due.number("outs again", x.outs(), 0);
        x.step(64);
        due.number("the choices are counted anew", x.lastOut(0), 6);
    }

    private static void everyOperationIsCarriedOut() {
        AllocChecker x = new AllocChecker();
        x.set(0, 0, 40);
        x.set(1, 1, 2);
        x.add(2 + 4 * 0 + 16 * 1, 2 + 8 * 0 + 64 * 1);
        x.out(2, 2);
        x.move(3, 2);
        x.out(2, 3);
        x.same(3, 1);
        x.out(3, 1);
        x.flow(1, 10);
        x.flow(2, 0);
        x.add(2 + 4 * 2 + 16 * 2, 2 + 8 * 3 + 64 * 2);
        x.out(2, 2);
        x.flow(2, 0);
        due.yes("start", x.start(0));
        int[] outsAfter = {0, 0, 0, 1, 1, 2, 2, 3, 3, 3, 4, 4};
        for (int i = 0; i < outsAfter.length; i++) {
            due.number("status before " + i, x.status(), AllocChecker.RUNNING);
            due.number("step " + i, x.step(1), 1);
            due.number("outs after " + i, x.outs(), outsAfter[i]);
        }
        due.number("stopped", x.status(), AllocChecker.STOPPED);
        due.number("sum of itself", x.lastOut(0), 84);
        due.number("same", x.lastOut(1), 2);
        due.number("moved", x.lastOut(2), 42);
        due.number("sum", x.lastOut(3), 42);

        // What SAME takes from a value that was never set can be put out by no sound program.
        x = new AllocChecker();
        x.same(1, 0);
        x.set(2, 2, 1);
        x.set(0, 0, 3);
        x.flow(2, 0);
        due.yes("a SAME of nothing is sound", x.start(0));
        due.number("steps of it", x.step(64), 4);
    }

    private static void aRunThatDoesNotEnd() {
        AllocChecker x = new AllocChecker();
        x.set(3, 4, MAX);
        x.out(3, 4);
        x.flow(1, 1);
        due.yes("start", x.start(0));
        x.step(1);
        for (int i = 1; i <= 400; i++) {
            due.number("64 more", x.step(1000), 64);
        }
        due.number("outs of 25600 steps", x.outs(), 12800);
        due.number("lastOut", x.lastOut(7), MAX);
        due.number("running", x.status(), AllocChecker.RUNNING);
    }

    private static void askingDoesNotDisturb() {
        AllocChecker x = new AllocChecker();
        x.set(0, 0, 8);
        x.out(0, 0);
        x.out(0, 0);
        x.flow(2, 0);
        x.start(0);
        x.step(2);
        x.length();
        x.sound();
        x.faults(1);
        x.reached(3);
        x.carries(2, 0);
        x.status();
        x.outs();
        x.lastOut(0);
        due.number("still running", x.status(), AllocChecker.RUNNING);
        due.number("one out", x.outs(), 1);
        due.number("the rest", x.step(64), 2);
        due.number("two outs", x.outs(), 2);
    }
}

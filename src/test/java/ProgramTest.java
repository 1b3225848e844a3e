/** Promises 1 to 9 and 19: a new object, how a program is written and taken back, and what a refusal leaves. */
public final class ProgramTest {
    private static final int MIN = Integer.MIN_VALUE;
    private static final int MAX = Integer.MAX_VALUE;
    private static final int[] NOT_VALUES = {-1, 4, 5, 32, MIN, MAX};
    private static final int[] NOT_PLACES = {-1, 5, 6, 7, 8, 32, MIN, MAX};
    private static final Due due = new Due("ProgramTest");

    public static void main(String[] args) {
        newObject();
        setIsAppended();
        addIsAppended();
        addTakesItsNumbersApart();
        moveIsAppended();
        outIsAppended();
        sameIsAppended();
        flowIsAppended();
        dropTakesTheLastAway();
        badComesBeforeFull();
        everyChangeEndsARun();
        refusalsChangeNothing();
        objectsAreApart();
        due.end();
    }

    private static void newObject() {
        AllocChecker x = new AllocChecker();
        due.number("new length", x.length(), 0);
        due.number("new status", x.status(), AllocChecker.IDLE);
        due.no("new sound", x.sound());
        due.no("new reached(0)", x.reached(0));
        due.number("new faults(0)", x.faults(0), 0);
        due.number("new carries(0, 0)", x.carries(0, 0), 0);
        due.number("new outs", x.outs(), 0);
        due.number("new lastOut(0)", x.lastOut(0), 0);
        due.number("new step(5)", x.step(5), 0);
        due.no("new start(0)", x.start(0));
        due.number("new drop", x.drop(), AllocChecker.BAD);
    }

    private static void setIsAppended() {
        for (int v = 0; v < 4; v++) {
            for (int p = 0; p < 5; p++) {
                AllocChecker x = new AllocChecker();
                due.number("first set", x.set(v, p, MIN + v), 0);
                due.number("out behind set", x.out(v, p), 1);
                due.number("stop behind out", x.flow(2, 0), 2);
                due.number("set carries", x.carries(1, p), 17 << v);
                due.yes("set starts", x.start(0));
                x.step(3);
                due.number("set's number", x.lastOut(0), MIN + v);
            }
        }
        AllocChecker x = new AllocChecker();
        for (int wrong : NOT_VALUES) {
            due.number("set v " + wrong, x.set(wrong, 0, 1), AllocChecker.BAD);
        }
        for (int wrong : NOT_PLACES) {
            due.number("set p " + wrong, x.set(0, wrong, 1), AllocChecker.BAD);
        }
        due.number("length after bad sets", x.length(), 0);
        for (int i = 0; i < 14; i++) {
            due.number("set " + i, x.set(3, 4, i), i);
        }
        due.number("fifteenth set", x.set(3, 4, 1), AllocChecker.FULL);
        due.number("length when full", x.length(), 14);
    }

    private static void addIsAppended() {
        AllocChecker x = new AllocChecker();
        for (int wrong : new int[] {-1, -64, 64, 65, 127, MIN, MAX}) {
            due.number("add values " + wrong, x.add(wrong, 0), AllocChecker.BAD);
        }
        for (int wrong : new int[] {-1, -8, -512, 293, 512, 513, 1024, 4096, 65536, MIN, MAX}) {
            due.number("add places " + wrong, x.add(0, wrong), AllocChecker.BAD);
        }
        for (int digit = 0; digit < 8; digit++) {
            for (int scale = 1; scale <= 64; scale *= 8) {
                int want = digit > 4 ? AllocChecker.BAD : 0;
                due.number("add places " + digit * scale, x.add(0, digit * scale), want);
                if (want == 0) {
                    x.drop();
                }
            }
        }
        due.number("greatest add", x.add(63, 4 + 32 + 256), 0);
        due.number("add behind it", x.add(0, 0), 1);
        while (x.length() < 14) {
            x.add(0, 0);
        }
        due.number("fifteenth add", x.add(0, 0), AllocChecker.FULL);
    }

    /** Every v, a, b and every three places, each added in a program that has a and b where the add looks for them. */
    private static void addTakesItsNumbersApart() {
        for (int values = 0; values < 64; values++) {
            for (int places = 0; places < 512; places++) {
                int v = values % 4, a = values / 4 % 4, b = values / 16;
                int pv = places % 8, pa = places / 8 % 8, pb = places / 64;
                boolean fit = pv < 5 && pa < 5 && pb < 5 && (a == b) == (pa == pb);
                if (fit) {
                    AllocChecker x = new AllocChecker();
                    x.set(a, pa, 100);
                    x.set(b, pb, 23);
                    x.add(values, places);
                    x.out(v, pv);
                    x.flow(2, 0);
                    due.yes("sound add " + values + ", " + places, x.start(0));
                    x.step(9);
                    due.number("add " + values + ", " + places, x.lastOut(0), a == b ? 46 : 123);
                }
            }
        }
        AllocChecker x = new AllocChecker();
        x.set(0, 0, MAX);
        x.set(1, 1, MAX);
        x.add(2 + 16, 2 + 64);
        x.out(2, 2);
        x.flow(2, 0);
        x.start(0);
        x.step(9);
        due.number("a sum wraps", x.lastOut(0), -2);
    }

    private static void moveIsAppended() {
        AllocChecker x = new AllocChecker();
        for (int wrong : NOT_PLACES) {
            due.number("move p " + wrong, x.move(wrong, 0), AllocChecker.BAD);
            due.number("move q " + wrong, x.move(0, wrong), AllocChecker.BAD);
        }
        for (int i = 0; i < 14; i++) {
            due.number("move " + i, x.move(4, i % 5), i);
        }
        due.number("fifteenth move", x.move(4, 4), AllocChecker.FULL);
    }

    private static void outIsAppended() {
        AllocChecker x = new AllocChecker();
        for (int wrong : NOT_VALUES) {
            due.number("out a " + wrong, x.out(wrong, 0), AllocChecker.BAD);
        }
        for (int wrong : NOT_PLACES) {
            due.number("out p " + wrong, x.out(0, wrong), AllocChecker.BAD);
        }
        for (int i = 0; i < 14; i++) {
            due.number("out " + i, x.out(i % 4, i % 5), i);
        }
        due.number("fifteenth out", x.out(3, 4), AllocChecker.FULL);
    }

    private static void sameIsAppended() {
        AllocChecker x = new AllocChecker();
        for (int wrong : NOT_VALUES) {
            due.number("same v " + wrong, x.same(wrong, 0), AllocChecker.BAD);
            due.number("same a " + wrong, x.same(0, wrong), AllocChecker.BAD);
        }
        for (int i = 0; i < 14; i++) {
            due.number("same " + i, x.same(3, i % 4), i);
        }
        due.number("fifteenth same", x.same(3, 3), AllocChecker.FULL);
    }

    private static void flowIsAppended() {
        AllocChecker x = new AllocChecker();
        for (int wrong : new int[] {-1, 3, 4, 5, 6, 7, MIN, MAX}) {
            due.number("flow kind " + wrong, x.flow(wrong, 0), AllocChecker.BAD);
        }
        int[] targets = {0, 13, 14, -1, MIN, MAX};
        for (int i = 0; i < 14; i++) {
            due.number("flow " + i, x.flow(i % 3, targets[i % 6]), i);
        }
        for (int kind = 0; kind < 3; kind++) {
            due.number("fifteenth flow", x.flow(kind, 0), AllocChecker.FULL);
        }
    }

    private static void dropTakesTheLastAway() {
        AllocChecker x = new AllocChecker();
        due.number("drop of nothing", x.drop(), AllocChecker.BAD);
        for (int i = 0; i < 14; i++) {
            x.set(0, 0, i);
        }
        for (int left = 13; left >= 0; left--) {
            due.number("drop to " + left, x.drop(), left);
            due.number("length " + left, x.length(), left);
        }
        due.number("drop of nothing again", x.drop(), AllocChecker.BAD);
        due.number("length after it", x.length(), 0);
        due.no("reached(0) after it", x.reached(0));
        due.number("a set after it", x.set(1, 2, 3), 0);
        due.number("carries nothing yet", x.carries(0, 2), 0);

        x.flow(2, 0);
        due.yes("sound before the drop", x.sound());
        x.drop();
        due.number("the drop opens the end", x.faults(0), AllocChecker.LEAVES);

        x.flow(0, 0);
        due.number("a way back", x.carries(0, 2), 32);
        x.drop();
        due.number("the way back is gone", x.carries(0, 2), 0);
    }

    private static void badComesBeforeFull() {
        AllocChecker x = new AllocChecker();
        for (int i = 0; i < 14; i++) {
            x.flow(2, 0);
        }
        due.number("bad set when full", x.set(4, 0, 0), AllocChecker.BAD);
        due.number("bad set place when full", x.set(0, 5, 0), AllocChecker.BAD);
        due.number("bad add when full", x.add(64, 0), AllocChecker.BAD);
        due.number("bad add place when full", x.add(0, 5), AllocChecker.BAD);
        due.number("bad move when full", x.move(0, 5), AllocChecker.BAD);
        due.number("bad out when full", x.out(4, 0), AllocChecker.BAD);
        due.number("bad same when full", x.same(0, 4), AllocChecker.BAD);
        due.number("bad flow when full", x.flow(3, 0), AllocChecker.BAD);
    }

    /** SET 0, OUT 0, STOP, running with one number put out. */
    private static AllocChecker running() {
        AllocChecker x = new AllocChecker();
        x.set(0, 0, 9);
        x.out(0, 0);
        x.flow(2, 0);
        x.start(0);
        x.step(2);
        due.number("running", x.status(), AllocChecker.RUNNING);
        due.number("running's out", x.lastOut(0), 9);
        return x;
    }

    private static int change(AllocChecker x, int which) {
        switch (which) {
            case 0: return x.set(0, 0, 0);
            case 1: return x.add(0, 0);
            case 2: return x.move(0, 0);
            case 3: return x.out(0, 0);
            case 4: return x.same(0, 0);
            case 5: return x.flow(0, 0);
            case 6: return x.flow(1, 0);
            case 7: return x.flow(2, 0);
            default: return x.drop();
        }
    }

    private static void everyChangeEndsARun() {
        for (int which = 0; which < 9; which++) {
            for (int more = 0; more < 2; more++) {
                AllocChecker x = running();
                x.step(more);
                due.number("change " + which, change(x, which), which == 8 ? 2 : 3);
                due.number("status after change " + which, x.status(), AllocChecker.IDLE);
                due.number("outs after change " + which, x.outs(), 0);
                due.number("lastOut after change " + which, x.lastOut(0), 0);
                due.number("step after change " + which, x.step(1), 0);
            }
        }
    }

    private static void refusalsChangeNothing() {
        AllocChecker x = running();
        x.set(4, 0, 1);
        x.set(0, 5, 1);
        x.add(64, 0);
        x.add(0, 7);
        x.move(5, 0);
        x.out(0, 5);
        x.same(0, -1);
        x.flow(3, 0);
        stillRunning("after bad calls", x, 3);

        AllocChecker full = running();
        while (full.length() < 14) {
            full.set(0, 0, 0);
        }
        full.start(0);
        full.step(2);
        for (int which = 0; which < 8; which++) {
            due.number("full " + which, change(full, which), AllocChecker.FULL);
        }
        stillRunning("when full", full, 14);

        AllocChecker empty = new AllocChecker();
        empty.drop();
        due.number("length after a refused drop", empty.length(), 0);
        due.number("first position after a refused drop", empty.set(0, 0, 1), 0);
    }

    private static void stillRunning(String when, AllocChecker x, int length) {
        due.number("length " + when, x.length(), length);
        due.number("status " + when, x.status(), AllocChecker.RUNNING);
        due.number("outs " + when, x.outs(), 1);
        due.number("lastOut " + when, x.lastOut(0), 9);
        due.yes("sound " + when, x.sound());
        due.number("carries " + when, x.carries(1, 0), 17);
        due.number("step " + when, x.step(9), 1);
        due.number("stopped " + when, x.status(), AllocChecker.STOPPED);
    }

    private static void objectsAreApart() {
        AllocChecker x = running();
        AllocChecker y = new AllocChecker();
        y.flow(1, 0);
        due.number("the other's length", x.length(), 3);
        due.number("the other's status", x.status(), AllocChecker.RUNNING);
        due.number("one's own length", y.length(), 1);
    }
}

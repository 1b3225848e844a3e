/** Long runs of calls, the same every time, each answer compared with Model's. */
public final class ModelTest {
    private static final int OBJECTS = 3000;
    private static final int CALLS = 512;
    private static final int[] WILD = {-1, 4, 5, 7, 8, 14, 15, 31, 32, 63, 64, 65, 512,
        Integer.MIN_VALUE, Integer.MIN_VALUE + 1, Integer.MAX_VALUE};
    private static final Due due = new Due("ModelTest");

    private static long seed = 20261115;
    private static int soundStarts = 0;
    private static int loopsRun = 0;

    private static AllocChecker x;
    private static Model m;
    private static int calls;

    public static void main(String[] args) {
        for (int object = 0; object < OBJECTS; object++) {
            x = new AllocChecker();
            m = new Model();
            calls = 0;
            while (calls < CALLS) {
                if (below(6) == 0) {
                    writeAProgram();
                }
                oneCall();
            }
        }
        due.yes("enough sound programs were started (" + soundStarts + ")", soundStarts > 5000);
        due.yes("enough of them ran long (" + loopsRun + ")", loopsRun > 1000);
        due.end();
    }

    private static int below(int bound) {
        seed = seed * 6364136223846793005L + 1442695040888963407L;
        return (int) ((seed >>> 33) % bound);
    }

    private static int anyInt() {
        below(2);
        return (int) (seed >>> 20);
    }

    /** Mostly 0 .. bound - 1, now and then another int. */
    private static int about(int bound) {
        return below(40) == 0 ? WILD[below(WILD.length)] : below(bound);
    }

    private static void compare(String call, long got, long want) {
        calls++;
        if (calls <= CALLS) {
            due.number("call " + calls + ", " + call, got, want);
        }
    }

    private static void compare(String call, boolean got, boolean want) {
        compare(call, got ? 1 : 0, want ? 1 : 0);
    }

    /** Programs that only chance writes are hardly ever sound: this one mostly reads what is surely carried. */
    private static void writeAProgram() {
        while (m.length() > below(4)) {
            compare("drop()", x.drop(), m.drop());
        }
        int length = 3 + below(11);
        for (int i = m.length(); i < length; i++) {
            if (below(12) == 0) {
                anyChange();
            } else {
                fittingChange(i, length);
            }
        }
        compare("flow(2, 0)", x.flow(2, 0), m.flow(2, 0));
        lookAtAll();
        run();
    }

    private static void fittingChange(int at, int length) {
        int p = below(5), q = below(5), v = below(4), n = anyInt();
        // A STOP shows what is carried at the end of the program so far.
        m.flow(2, 0);
        int a = carriedBy(p, at), b = carriedBy(q, at);
        m.drop();
        int kind = below(10);
        if (kind < 3 && a >= 0) {
            compare("out", x.out(a, p), m.out(a, p));
        } else if (kind < 5 && a >= 0 && b >= 0) {
            int values = v + 4 * a + 16 * b, places = below(5) + 8 * p + 64 * q;
            compare("add", x.add(values, places), m.add(values, places));
        } else if (kind < 7) {
            compare("move", x.move(p, q), m.move(p, q));
        } else if (kind == 7) {
            compare("same", x.same(v, p % 4), m.same(v, p % 4));
        } else if (kind == 8 && at > 0) {
            int t = below(length + 1), jump = below(6) == 0 ? 1 : 0;
            compare("flow", x.flow(jump, t), m.flow(jump, t));
        } else {
            compare("set", x.set(v, p, n), m.set(v, p, n));
        }
    }

    private static int carriedBy(int place, int at) {
        int surely = m.carries(at, place) & 15;
        int first = below(4);
        for (int i = 0; i < 4; i++) {
            int v = (first + i) % 4;
            if ((surely >> v & 1) == 1) {
                return v;
            }
        }
        return -1;
    }

    private static void lookAtAll() {
        compare("sound()", x.sound(), m.sound());
        for (int p = -1; p <= m.length(); p++) {
            compare("faults(" + p + ")", x.faults(p), m.faults(p));
            compare("reached(" + p + ")", x.reached(p), m.reached(p));
            for (int q = 0; q < 5; q++) {
                compare("carries(" + p + ", " + q + ")", x.carries(p, q), m.carries(p, q));
            }
        }
    }

    private static void run() {
        int choices = anyInt();
        boolean started = m.start(choices);
        compare("start(" + choices + ")", x.start(choices), started);
        int done = 0;
        for (int i = 0; i < 3; i++) {
            int n = below(80) - 5, want = m.step(n);
            compare("step(" + n + ")", x.step(n), want);
            done += want;
            lookAtTheRun();
        }
        soundStarts += started ? 1 : 0;
        loopsRun += done > 14 ? 1 : 0;
        due.yes("both sides put out the same", m.sidesAgree());
    }

    private static void lookAtTheRun() {
        compare("status()", x.status(), m.status());
        compare("outs()", x.outs(), m.outs());
        int k = about(10);
        compare("lastOut(" + k + ")", x.lastOut(k), m.lastOut(k));
    }

    private static void anyChange() {
        int a = about(5), b = about(5), n = anyInt();
        switch (below(7)) {
            case 0:
                compare("set", x.set(a, b, n), m.set(a, b, n));
                break;
            case 1:
                int values = about(64), places = below(3) == 0 ? about(600) : below(5) + 8 * below(5) + 64 * below(5);
                compare("add(" + values + ", " + places + ")", x.add(values, places), m.add(values, places));
                break;
            case 2:
                compare("move", x.move(a, b), m.move(a, b));
                break;
            case 3:
                compare("out", x.out(a, b), m.out(a, b));
                break;
            case 4:
                compare("same", x.same(a, b), m.same(a, b));
                break;
            case 5:
                int kind = about(3), t = about(14);
                compare("flow(" + kind + ", " + t + ")", x.flow(kind, t), m.flow(kind, t));
                break;
            default:
                compare("drop()", x.drop(), m.drop());
        }
    }

    private static void oneCall() {
        int p = about(14), q = about(5), n = about(70);
        switch (below(12)) {
            case 0:
                anyChange();
                break;
            case 1:
                compare("length()", x.length(), m.length());
                break;
            case 2:
                compare("sound()", x.sound(), m.sound());
                break;
            case 3:
                compare("faults(" + p + ")", x.faults(p), m.faults(p));
                break;
            case 4:
                compare("reached(" + p + ")", x.reached(p), m.reached(p));
                break;
            case 5:
                compare("carries(" + p + ", " + q + ")", x.carries(p, q), m.carries(p, q));
                break;
            case 6:
                int choices = anyInt();
                compare("start(" + choices + ")", x.start(choices), m.start(choices));
                break;
            case 7:
            case 8:
                compare("step(" + n + ")", x.step(n), m.step(n));
                break;
            default:
                lookAtTheRun();
        }
    }
}

/** Promises 2 to 9: how a program is written and taken back. */
public final class ProgramTest {
    private static final int MIN = Integer.MIN_VALUE;
    private static final Due due = new Due("ProgramTest");

    public static void main(String[] args) {
        eachIsAppended();
        setWritesAnyNumber();
        addTakesItsNumbersApart();
        dropTakesTheLastAway();
        objectsAreApart();
        due.end();
    }

    private static void eachIsAppended() {
        AllocChecker x = new AllocChecker();
        int position = 0;
        for (Calls.Call call : Calls.oneOfEach()) {
            due.number(call.words(), call.on(x), position);
            position++;
            due.number("length after " + call.words(), x.length(), position);
        }
    }

    private static void setWritesAnyNumber() {
        for (int v = 0; v < 4; v++) {
            for (int p = 0; p < 5; p++) {
                AllocChecker x = new AllocChecker();
                x.set(v, p, MIN + v);
                x.out(v, p);
                x.flow(2, 0);
                due.number("set carries", x.carries(1, p), 17 << v);
                due.yes("set starts", x.start(0));
                x.step(3);
                due.number("set's number", x.lastOut(0), MIN + v);
            }
        }
    }

    /** Every v, a, b and every three places, each added in a program that has a and b where the add looks for them. */
    private static void addTakesItsNumbersApart() {
        for (int values = 0; values < 64; values++) {
            for (int places = 0; places < 512; places++) {
                int v = values % 4, a = values / 4 % 4, b = values / 16;
                int pv = places % 8, pa = places / 8 % 8, pb = places / 64;
                boolean fit = pv < 5 && pa < 5 && pb < 5 && (a == b) == (pa == pb);
                if (fit) {
                    AllocChecker x = new AllocChecker();
                    x.set(a, pa, 100);
                    x.set(b, pb, 23);
                    x.add(values, places);
                    x.out(v, pv);
                    x.flow(2, 0);
                    due.yes("sound add " + values + ", " + places, x.start(0));
                    x.step(9);
                    due.number("add " + values + ", " + places, x.lastOut(0), a == b ? 46 : 123);
                }
            }
        }
    }

    private static void dropTakesTheLastAway() {
        AllocChecker x = new AllocChecker();
        x.set(1, 2, 3);
        x.flow(2, 0);
        due.yes("sound before the drop", x.sound());
        due.number("drop", x.drop(), 1);
        due.number("the drop opens the end", x.faults(0), AllocChecker.LEAVES);

        x.flow(0, 0);
        due.number("a way back", x.carries(0, 2), 32);
        due.number("drop", x.drop(), 1);
        due.number("the way back is gone", x.carries(0, 2), 0);

        due.number("another in its place", x.set(3, 4, 5), 1);
        x.flow(2, 0);
        due.number("what the other carries", x.carries(2, 4), 17 << 3);
    }

    private static void objectsAreApart() {
        AllocChecker x = Sample.running();
        AllocChecker y = new AllocChecker();
        y.flow(1, 0);
        due.number("the other's length", x.length(), 6);
        due.number("the other's status", x.status(), AllocChecker.RUNNING);
        due.number("one's own length", y.length(), 1);
    }
}

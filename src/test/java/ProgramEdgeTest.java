import java.util.List;
import java.util.function.Supplier;

/** Promises 1 to 9 and 19: a test for each sentence that names a boundary case, with the sentence over it. */
public final class ProgramEdgeTest {
    private static final int BAD = AllocChecker.BAD;
    private static final int FULL = AllocChecker.FULL;
    private static final Due due = new Due("ProgramEdgeTest");

    public static void main(String[] args) {
        aNewObjectIsEmpty();
        aNewObjectHasNoRun();
        setOfNoValueIsBad();
        setOfNoPlaceIsBad();
        setTakesEveryValueAndPlace();
        addOfNoValuesIsBad();
        addOfNegativePlacesIsBad();
        addOfNoPlaceIsBad();
        addTakesEveryThreePlaces();
        moveOfNoPlaceIsBad();
        moveTakesEveryTwoPlaces();
        outOfNoValueIsBad();
        outOfNoPlaceIsBad();
        outTakesEveryValueAndPlace();
        sameOfNoValueIsBad();
        sameTakesEveryTwoValues();
        flowOfNoKindIsBad();
        flowTakesAnyTarget();
        fullWhenThereAreFourteen();
        badComesBeforeFull();
        dropOfNothingIsBad();
        dropCountsDownToNone();
        dropEndsARun();
        everyChangeEndsARun();
        badCallsChangeNothing();
        callsOfAFullProgramChangeNothing();
        aRefusedDropChangesNothing();
        aRefusedStartChangesNothing();
        due.end();
    }

    /** Promise 1: "An empty program" */
    private static void aNewObjectIsEmpty() {
        AllocChecker x = new AllocChecker();
        due.number("new length", x.length(), 0);
        due.no("new sound", x.sound());
        for (int p : Calls.ANY_INTS) {
            due.no("new reached(" + p + ")", x.reached(p));
            due.number("new faults(" + p + ")", x.faults(p), 0);
            due.number("new carries(" + p + ", 0)", x.carries(p, 0), 0);
        }
        due.number("the first position", x.flow(2, 0), 0);
    }

    /** Promise 1: "no run: IDLE" */
    private static void aNewObjectHasNoRun() {
        AllocChecker x = new AllocChecker();
        due.number("new status", x.status(), AllocChecker.IDLE);
        due.number("new outs", x.outs(), 0);
        for (int k = -1; k <= 8; k++) {
            due.number("new lastOut(" + k + ")", x.lastOut(k), 0);
        }
        due.number("new step(5)", x.step(5), 0);
        due.number("new status after a step", x.status(), AllocChecker.IDLE);
    }

    /** Each call by itself, on an empty program and on one with room for one more. */
    private static void areBad(List<Calls.Call> calls) {
        for (int length = 0; length < 14; length += 13) {
            for (Calls.Call call : calls) {
                AllocChecker x = Sample.ofLength(length);
                due.number(call.words() + " behind " + length, call.on(x), BAD);
                due.number("length after " + call.words(), x.length(), length);
            }
        }
    }

    private static void isTaken(Calls.Call call) {
        for (int length = 0; length < 14; length += 13) {
            AllocChecker x = Sample.ofLength(length);
            due.number(call.words() + " behind " + length, call.on(x), length);
            due.number("length after " + call.words(), x.length(), length + 1);
        }
    }

    /** Promise 2: "BAD when v is not 0 .. 3" */
    private static void setOfNoValueIsBad() {
        areBad(Calls.setsOfNoValue());
    }

    /** Promise 2: "or p is not 0 .. 4" */
    private static void setOfNoPlaceIsBad() {
        areBad(Calls.setsOfNoPlace());
    }

    private static void setTakesEveryValueAndPlace() {
        for (int v = 0; v < 4; v++) {
            for (int p = 0; p < 5; p++) {
                isTaken(Calls.set(v, p, 1));
            }
        }
        for (int n : Calls.ANY_INTS) {
            isTaken(Calls.set(0, 0, n));
        }
    }

    /** Promise 3: "BAD when values is not 0 .. 63" */
    private static void addOfNoValuesIsBad() {
        areBad(Calls.addsOfNoValues());
    }

    /** Promise 3: "or places is negative" */
    private static void addOfNegativePlacesIsBad() {
        areBad(Calls.addsOfNegativePlaces());
    }

    /** Promise 3: "or one of the three places is not 0 .. 4" */
    private static void addOfNoPlaceIsBad() {
        areBad(Calls.addsOfNoPlace());
    }

    private static void addTakesEveryThreePlaces() {
        for (int values = 0; values < 64; values++) {
            isTaken(Calls.add(values, 0));
            isTaken(Calls.add(values, 292));
        }
        for (int ofV = 0; ofV < 5; ofV++) {
            for (int ofA = 0; ofA < 5; ofA++) {
                for (int ofB = 0; ofB < 5; ofB++) {
                    isTaken(Calls.add(0, ofV + 8 * ofA + 64 * ofB));
                }
            }
        }
    }

    /** Promise 4: "BAD when p or q is not 0 .. 4" */
    private static void moveOfNoPlaceIsBad() {
        areBad(Calls.movesOfNoPlace());
    }

    private static void moveTakesEveryTwoPlaces() {
        for (int p = 0; p < 5; p++) {
            for (int q = 0; q < 5; q++) {
                isTaken(Calls.move(p, q));
            }
        }
    }

    /** Promise 5: "BAD when a is not 0 .. 3" */
    private static void outOfNoValueIsBad() {
        areBad(Calls.outsOfNoValue());
    }

    /** Promise 5: "or p is not 0 .. 4" */
    private static void outOfNoPlaceIsBad() {
        areBad(Calls.outsOfNoPlace());
    }

    private static void outTakesEveryValueAndPlace() {
        for (int a = 0; a < 4; a++) {
            for (int p = 0; p < 5; p++) {
                isTaken(Calls.out(a, p));
            }
        }
    }

    /** Promise 6: "BAD when v or a is not 0 .. 3" */
    private static void sameOfNoValueIsBad() {
        areBad(Calls.samesOfNoValue());
    }

    private static void sameTakesEveryTwoValues() {
        for (int v = 0; v < 4; v++) {
            for (int a = 0; a < 4; a++) {
                isTaken(Calls.same(v, a));
            }
        }
    }

    /** Promise 7: "BAD when kind is not 0 .. 2" */
    private static void flowOfNoKindIsBad() {
        areBad(Calls.flowsOfNoKind());
    }

    /** Promise 7: "(t may be any int.)" */
    private static void flowTakesAnyTarget() {
        for (int kind = 0; kind < 3; kind++) {
            for (int t : Calls.ANY_INTS) {
                isTaken(Calls.flow(kind, t));
            }
        }
    }

    /** Promises 2 to 7: "then FULL when there are 14" */
    private static void fullWhenThereAreFourteen() {
        for (Calls.Call call : Calls.oneOfEach()) {
            isTaken(call);
            AllocChecker x = Sample.ofLength(14);
            due.number(call.words() + " behind 14", call.on(x), FULL);
            due.number(call.words() + " behind 14 again", call.on(x), FULL);
            due.number("length when full", x.length(), 14);
        }
        for (int t : Calls.ANY_INTS) {
            due.number("flow(1, " + t + ") behind 14", Sample.ofLength(14).flow(1, t), FULL);
        }
    }

    /** Promises 2 to 7: "BAD ..; then FULL": what is wrong in both ways is BAD. */
    private static void badComesBeforeFull() {
        for (Calls.Call call : Calls.allBad()) {
            due.number(call.words() + " when full", call.on(Sample.ofLength(14)), BAD);
        }
    }

    /** Promise 8: "BAD when there is none" */
    private static void dropOfNothingIsBad() {
        AllocChecker x = new AllocChecker();
        due.number("drop of nothing", x.drop(), BAD);
        due.number("drop of nothing again", x.drop(), BAD);
        due.number("length after it", x.length(), 0);
        x.flow(2, 0);
        due.number("drop of the only one", x.drop(), 0);
        due.number("drop of nothing once more", x.drop(), BAD);
        due.number("length after that", x.length(), 0);
    }

    private static void dropCountsDownToNone() {
        AllocChecker x = Sample.ofLength(14);
        for (int left = 13; left >= 0; left--) {
            due.number("drop to " + left, x.drop(), left);
            due.number("length " + left, x.length(), left);
            due.number("reached(" + left + ")", x.reached(left) ? 1 : 0, 0);
        }
        due.no("sound of none", x.sound());
        due.number("and up again", x.set(0, 0, 0), 0);
    }

    private static void hasNoRun(String when, AllocChecker x) {
        due.number("status " + when, x.status(), AllocChecker.IDLE);
        due.number("outs " + when, x.outs(), 0);
        for (int k = 0; k < 8; k++) {
            due.number("lastOut(" + k + ") " + when, x.lastOut(k), 0);
        }
        due.number("step " + when, x.step(64), 0);
    }

    /** Promise 8: "Ends a run: IDLE." */
    private static void dropEndsARun() {
        endsARun(Calls.drop(), -1);
        AllocChecker x = Sample.counting();
        x.out(3, 4);
        x.start(7);
        x.step(7);
        due.number("drop of what no walk reaches", x.drop(), 6);
        due.yes("still sound", x.sound());
        hasNoRun("after it", x);
    }

    /** Promise 2: "Like every change of the program, it ends a run: IDLE." */
    private static void everyChangeEndsARun() {
        for (Calls.Call call : Calls.oneOfEach()) {
            endsARun(call, 0);
        }
    }

    private static void endsARun(Calls.Call call, int more) {
        for (Supplier<AllocChecker> state : List.<Supplier<AllocChecker>>of(Sample::running, Sample::stopped)) {
            AllocChecker x = state.get();
            int status = x.status(), length = x.length();
            due.yes("there is a run before " + call.words(), status != AllocChecker.IDLE && x.outs() > 0);
            due.number(call.words() + " with status " + status, call.on(x), length + more);
            hasNoRun("after " + call.words() + " with status " + status, x);
        }
    }

    /** That the call is refused, and leaves all that can be seen now, and all that the run will still do. */
    private static void changesNothing(Calls.Call call, int answer, Supplier<AllocChecker> state) {
        AllocChecker x = state.get();
        AllocChecker twin = state.get();
        due.number(call.words(), call.on(x), answer);
        due.text("after " + call.words(), Sample.seen(x), Sample.seen(twin));
        due.number("steps left after " + call.words(), x.step(64), twin.step(64));
        due.text("run on after " + call.words(), Sample.seen(x), Sample.seen(twin));
        due.number("drop after " + call.words(), x.drop(), twin.drop());
        due.number("STOP after " + call.words(), x.flow(2, 0), twin.flow(2, 0));
        due.text("changed after " + call.words(), Sample.seen(x), Sample.seen(twin));
    }

    /** Promise 19: "A call that is refused, because a number is not as said there, .. changes nothing." */
    private static void badCallsChangeNothing() {
        for (Calls.Call call : Calls.allBad()) {
            changesNothing(call, BAD, AllocChecker::new);
            changesNothing(call, BAD, Sample::counting);
            changesNothing(call, BAD, Sample::running);
            changesNothing(call, BAD, Sample::stopped);
            changesNothing(call, BAD, Sample::fullAndRunning);
        }
    }

    /** Promise 19: ".. or a limit is reached, changes nothing." */
    private static void callsOfAFullProgramChangeNothing() {
        for (Calls.Call call : Calls.oneOfEach()) {
            changesNothing(call, FULL, Sample::full);
            changesNothing(call, FULL, Sample::fullAndRunning);
            changesNothing(call, FULL, () -> Sample.ofLength(14));
        }
    }

    /** Promise 19: ".. something is not there, .. changes nothing." */
    private static void aRefusedDropChangesNothing() {
        changesNothing(Calls.drop(), BAD, AllocChecker::new);
        changesNothing(Calls.drop(), BAD, Sample::takenAway);
    }

    /** Promises 14 and 19: start answers "false, changing nothing, when the program is not SOUND". */
    private static void aRefusedStartChangesNothing() {
        for (int choices : Calls.ANY_INTS) {
            Calls.Call start = new Calls.Call("start(" + choices + ")", x -> x.start(choices) ? 1 : 0);
            changesNothing(start, 0, AllocChecker::new);
            changesNothing(start, 0, () -> {
                AllocChecker x = Sample.stopped();
                x.drop();
                return x;
            });
            changesNothing(start, 0, () -> {
                AllocChecker x = Sample.running();
                x.drop();
                x.out(3, 4);
                x.flow(2, 0);
                return x;
            });
        }
    }
}

import java.util.ArrayList;
import java.util.List;
import java.util.function.ToIntFunction;

/** Calls that change a program, each with the words to tell it by: right ones, and wrong ones by what is wrong. */
final class Calls {
    static final int MIN = Integer.MIN_VALUE;
    static final int MAX = Integer.MAX_VALUE;
    static final int[] NOT_VALUES = {-1, 4, 5, 8, 32, -4, MIN, MIN + 1, MAX};
    static final int[] NOT_PLACES = {-1, 5, 6, 7, 8, 32, -8, MIN, MIN + 1, MAX};
    static final int[] NOT_KINDS = {-1, 3, 4, 5, 6, 7, MIN, MAX};
    /** Greatest, least, and just beside what a position can be. */
    static final int[] ANY_INTS = {0, 1, 13, 14, -1, MIN, MIN + 1, MAX, MAX - 1};

    record Call(String words, ToIntFunction<AllocChecker> made) {
        int on(AllocChecker x) {
            return made.applyAsInt(x);
        }
    }

    private Calls() {
    }

    static Call set(int v, int p, int n) {
        return new Call("set(" + v + ", " + p + ", " + n + ")", x -> x.set(v, p, n));
    }

    static Call add(int values, int places) {
        return new Call("add(" + values + ", " + places + ")", x -> x.add(values, places));
    }

    static Call move(int p, int q) {
        return new Call("move(" + p + ", " + q + ")", x -> x.move(p, q));
    }

    static Call out(int a, int p) {
        return new Call("out(" + a + ", " + p + ")", x -> x.out(a, p));
    }

    static Call same(int v, int a) {
        return new Call("same(" + v + ", " + a + ")", x -> x.same(v, a));
    }

    static Call flow(int kind, int t) {
        return new Call("flow(" + kind + ", " + t + ")", x -> x.flow(kind, t));
    }

    static Call drop() {
        return new Call("drop()", x -> x.drop());
    }

    /** One right call of each operation. */
    static List<Call> oneOfEach() {
        return List.of(set(0, 0, 0), add(0, 0), move(0, 0), out(0, 0), same(0, 0), flow(0, 0), flow(1, 0), flow(2, 0));
    }

    static List<Call> setsOfNoValue() {
        List<Call> calls = new ArrayList<>();
        for (int wrong : NOT_VALUES) {
            calls.add(set(wrong, 0, 1));
            calls.add(set(wrong, 4, 1));
        }
        return calls;
    }

    static List<Call> setsOfNoPlace() {
        List<Call> calls = new ArrayList<>();
        for (int wrong : NOT_PLACES) {
            calls.add(set(0, wrong, 1));
            calls.add(set(3, wrong, 1));
        }
        calls.add(set(4, 5, 1));
        return calls;
    }

    static List<Call> addsOfNoValues() {
        List<Call> calls = new ArrayList<>();
        for (int wrong : new int[] {-1, -2, -64, MIN, MIN + 63, MAX}) {
            calls.add(add(wrong, 0));
        }
        for (int bit = 6; bit < 31; bit++) {
            calls.add(add(1 << bit, 0));
            calls.add(add((1 << bit) + 63, 292));
        }
        return calls;
    }

    /** Among them some whose lowest nine bits by themselves would be three places. */
    static List<Call> addsOfNegativePlaces() {
        List<Call> calls = new ArrayList<>();
        for (int wrong : new int[] {-1, -2, -8, -64, -512, -512 + 292, -1024 + 1, MIN, MIN + 1, MIN + 292}) {
            calls.add(add(0, wrong));
        }
        return calls;
    }

    /** Each of the three places too large, beside the least and the greatest of the two others. */
    static List<Call> addsOfNoPlace() {
        List<Call> calls = new ArrayList<>();
        for (int wrong = 5; wrong < 8; wrong++) {
            for (int other = 0; other <= 4; other += 4) {
                calls.add(add(0, wrong + 8 * other + 64 * other));
                calls.add(add(0, other + 8 * wrong + 64 * other));
                calls.add(add(0, other + 8 * other + 64 * wrong));
            }
        }
        for (int bit = 9; bit < 31; bit++) {
            calls.add(add(0, 1 << bit));
            calls.add(add(63, (1 << bit) + 292));
        }
        calls.add(add(0, MAX));
        calls.add(add(64, 5));
        return calls;
    }

    static List<Call> movesOfNoPlace() {
        List<Call> calls = new ArrayList<>();
        for (int wrong : NOT_PLACES) {
            calls.add(move(wrong, 0));
            calls.add(move(wrong, 4));
            calls.add(move(0, wrong));
            calls.add(move(4, wrong));
            calls.add(move(wrong, wrong));
        }
        return calls;
    }

    static List<Call> outsOfNoValue() {
        List<Call> calls = new ArrayList<>();
        for (int wrong : NOT_VALUES) {
            calls.add(out(wrong, 0));
            calls.add(out(wrong, 4));
        }
        return calls;
    }

    static List<Call> outsOfNoPlace() {
        List<Call> calls = new ArrayList<>();
        for (int wrong : NOT_PLACES) {
            calls.add(out(0, wrong));
            calls.add(out(3, wrong));
        }
        calls.add(out(4, 5));
        return calls;
    }

    static List<Call> samesOfNoValue() {
        List<Call> calls = new ArrayList<>();
        for (int wrong : NOT_VALUES) {
            calls.add(same(wrong, 0));
            calls.add(same(wrong, 3));
            calls.add(same(0, wrong));
            calls.add(same(3, wrong));
            calls.add(same(wrong, wrong));
        }
        return calls;
    }

    static List<Call> flowsOfNoKind() {
        List<Call> calls = new ArrayList<>();
        for (int wrong : NOT_KINDS) {
            calls.add(flow(wrong, 0));
            calls.add(flow(wrong, -1));
        }
        return calls;
    }

    static List<Call> allBad() {
        List<Call> calls = new ArrayList<>();
        calls.addAll(setsOfNoValue());
        calls.addAll(setsOfNoPlace());
        calls.addAll(addsOfNoValues());
        calls.addAll(addsOfNegativePlaces());
        calls.addAll(addsOfNoPlace());
        calls.addAll(movesOfNoPlace());
        calls.addAll(outsOfNoValue());
        calls.addAll(outsOfNoPlace());
        calls.addAll(samesOfNoValue());
        calls.addAll(flowsOfNoKind());
        return calls;
    }
}

import java.util.ArrayDeque;
import java.util.ArrayList;
import java.util.HashSet;
import java.util.List;
import java.util.Set;

/**
 * The document read plainly, to compare with: every walk is followed with all that the places carry on it,
 * and nothing is joined. A run keeps all its numbers, and runs the machine side beside the source side.
 */
final class Model {
    /** One instruction: operation, v, a, b, place of v, place of a, place of b, number (n or t). */
    private final List<int[]> program = new ArrayList<>();
    /** For each position, what the places carry, each way that some walk comes there with. */
    private final List<Set<List<Set<Integer>>>> arrivals = new ArrayList<>();

    private int status = 0;
    private int position;
    private int choices;
    private int forks;
    private int[] values = new int[4];
    private int[] places = new int[5];
    private final List<Integer> sourceOuts = new ArrayList<>();
    private final List<Integer> machineOuts = new ArrayList<>();

    private static boolean within(int x, int most) {
        return 0 <= x && x <= most;
    }

    int set(int v, int p, int n) {
        return within(v, 3) && within(p, 4) ? append(0, v, 0, 0, p, 0, 0, n) : -1;
    }

    int add(int vs, int ps) {
        if (!within(vs, 63) || ps < 0 || ps % 8 > 4 || ps / 8 % 8 > 4 || ps / 64 > 4) {
            return -1;
        }
        return append(1, vs % 4, vs / 4 % 4, vs / 16, ps % 8, ps / 8 % 8, ps / 64, 0);
    }

    int move(int p, int q) {
        return within(p, 4) && within(q, 4) ? append(2, 0, 0, 0, p, q, 0, 0) : -1;
    }

    int out(int a, int p) {
        return within(a, 3) && within(p, 4) ? append(3, 0, a, 0, 0, p, 0, 0) : -1;
    }

    int same(int v, int a) {
        return within(v, 3) && within(a, 3) ? append(4, v, a, 0, 0, 0, 0, 0) : -1;
    }

    int flow(int kind, int t) {
        return within(kind, 2) ? append(5 + kind, 0, 0, 0, 0, 0, 0, t) : -1;
    }

    private int append(int... instruction) {
        if (program.size() == 14) {
            return -2;
        }
        program.add(instruction);
        changed();
        return program.size() - 1;
    }

    int drop() {
        if (program.isEmpty()) {
            return -1;
        }
        program.remove(program.size() - 1);
        changed();
        return program.size();
    }

    int length() {
        return program.size();
    }

    private void changed() {
        status = 0;
        sourceOuts.clear();
        machineOuts.clear();
        arrivals.clear();
        for (int i = 0; i < program.size(); i++) {
            arrivals.add(new HashSet<>());
        }
        List<Set<Integer>> nothing = new ArrayList<>();
        for (int q = 0; q < 5; q++) {
            nothing.add(new HashSet<>());
        }
        ArrayDeque<Object[]> ahead = new ArrayDeque<>();
        come(0, nothing, ahead);
        while (!ahead.isEmpty()) {
            Object[] at = ahead.remove();
            int p = (Integer) at[0];
            @SuppressWarnings("unchecked")
            List<Set<Integer>> carried = after(program.get(p), (List<Set<Integer>>) at[1]);
            for (int next : nextOf(p)) {
                come(next, carried, ahead);
            }
        }
    }

    private void come(int p, List<Set<Integer>> carried, ArrayDeque<Object[]> ahead) {
        if (within(p, program.size() - 1) && arrivals.get(p).add(carried)) {
            ahead.add(new Object[] {p, carried});
        }
    }

    private int[] nextOf(int p) {
        int[] i = program.get(p);
        switch (i[0]) {
            case 5: return new int[] {i[7], p + 1};
            case 6: return new int[] {i[7]};
            case 7: return new int[0];
            default: return new int[] {p + 1};
        }
    }

    private static List<Set<Integer>> after(int[] i, List<Set<Integer>> before) {
        List<Set<Integer>> now = new ArrayList<>();
        for (Set<Integer> place : before) {
            now.add(new HashSet<>(place));
        }
        if (i[0] == 0 || i[0] == 1) {
            for (Set<Integer> place : now) {
                place.remove(i[1]);
            }
            now.get(i[4]).clear();
            now.get(i[4]).add(i[1]);
        } else if (i[0] == 2) {
            now.set(i[4], new HashSet<>(before.get(i[5])));
        } else if (i[0] == 4) {
            for (int q = 0; q < 5; q++) {
                if (before.get(q).contains(i[2])) {
                    now.get(q).add(i[1]);
                } else {
                    now.get(q).remove(i[1]);
                }
            }
        }
        return now;
    }

    boolean sound() {
        for (int p = 0; p < program.size(); p++) {
            if (faults(p) != 0) {
                return false;
            }
        }
        return !program.isEmpty();
    }

    int faults(int p) {
        if (!reached(p)) {
            return 0;
        }
        int[] i = program.get(p);
        boolean first = false, second = false, leaves = false;
        for (List<Set<Integer>> carried : arrivals.get(p)) {
            first |= (i[0] == 1 || i[0] == 3) && !carried.get(i[5]).contains(i[2]);
            second |= i[0] == 1 && !carried.get(i[6]).contains(i[3]);
        }
        for (int next : nextOf(p)) {
            leaves |= !within(next, program.size() - 1);
        }
        return (first ? 1 : 0) + (second ? 2 : 0) + (leaves ? 4 : 0);
    }

    boolean reached(int p) {
        return within(p, program.size() - 1) && !arrivals.get(p).isEmpty();
    }

    int carries(int p, int q) {
        if (!reached(p) || !within(q, 4)) {
            return 0;
        }
        int answer = 0;
        for (int v = 0; v < 4; v++) {
            boolean every = true, some = false;
            for (List<Set<Integer>> carried : arrivals.get(p)) {
                every &= carried.get(q).contains(v);
                some |= carried.get(q).contains(v);
            }
            answer += (every ? 1 << v : 0) + (some ? 16 << v : 0);
        }
        return answer;
    }

    boolean start(int decided) {
        if (!sound()) {
            return false;
        }
        status = 1;
        position = 0;
        choices = decided;
        forks = 0;
        values = new int[4];
        // The places begin with numbers of no value, so that a place read too early is seen in what is put out.
        places = new int[] {-101, -102, -103, -104, -105};
        sourceOuts.clear();
        machineOuts.clear();
        return true;
    }

    int step(int n) {
        int done = 0;
        while (done < Math.min(n, 64) && status == 1) {
            carryOut(program.get(position));
            done++;
        }
        return done;
    }

    private void carryOut(int[] i) {
        int next = position + 1;
        switch (i[0]) {
            case 0:
                values[i[1]] = i[7];
                places[i[4]] = i[7];
                break;
            case 1:
                values[i[1]] = values[i[2]] + values[i[3]];
                places[i[4]] = places[i[5]] + places[i[6]];
                break;
            case 2:
                places[i[4]] = places[i[5]];
                break;
            case 3:
                sourceOuts.add(values[i[2]]);
                machineOuts.add(places[i[5]]);
                break;
            case 4:
                values[i[1]] = values[i[2]];
                break;
            case 5:
                next = (choices & (1 << (forks % 32))) != 0 ? i[7] : next;
                forks++;
                break;
            case 6:
                next = i[7];
                break;
            default:
                status = 2;
        }
        position = next;
    }

    int status() {
        return status;
    }

    int outs() {
        return sourceOuts.size();
    }

    int lastOut(int k) {
        return within(k, 7) && k < sourceOuts.size() ? sourceOuts.get(sourceOuts.size() - 1 - k) : 0;
    }

    boolean sidesAgree() {
        return sourceOuts.equals(machineOuts);
    }
}

/** Checks the work of a register allocator on every way a program can go, and runs what it finds right. */
public final class AllocChecker {
    public static final int FIRST = 1;
    public static final int SECOND = 2;
    public static final int LEAVES = 4;
    public static final int BAD = -1;
    public static final int FULL = -2;
    public static final int IDLE = 0;
    public static final int RUNNING = 1;
    public static final int STOPPED = 2;

    private static final int SET = 0;
    private static final int ADD = 1;
    private static final int MOVE = 2;
    private static final int OUT = 3;
    private static final int SAME = 4;
    private static final int FORK = 5;
    private static final int JUMP = 6;
    private static final int STOP = 7;

    private static final int MOST_INSTRUCTIONS = 14;
    private static final int VALUES = 4;
    private static final int PLACES = 5;
    private static final int MOST_STEPS = 64;
    private static final int KEPT_OUTS = 8;

    // What the places carry is held as one int: bit VALUES * place + value.
    private static final int ALL_VALUES_OF_PLACE_0 = 0xF;
    private static final int VALUE_0_IN_ALL_PLACES = 0x11111;

    // Every pass but the last makes a position reached, or turns one of its 20 bits in one of the two sets, for good.
    private static final int MOST_PASSES = MOST_INSTRUCTIONS * (1 + 2 * VALUES * PLACES) + 1;

    private final int[] operations = new int[MOST_INSTRUCTIONS];
    private final int[] writtenValue = new int[MOST_INSTRUCTIONS];
    private final int[] firstValue = new int[MOST_INSTRUCTIONS];
    private final int[] secondValue = new int[MOST_INSTRUCTIONS];
    private final int[] writtenPlace = new int[MOST_INSTRUCTIONS];
    private final int[] firstPlace = new int[MOST_INSTRUCTIONS];
    private final int[] secondPlace = new int[MOST_INSTRUCTIONS];
    /** The n of SET, the t of FORK and JUMP. */
    private final int[] numbers = new int[MOST_INSTRUCTIONS];
    private int count = 0;

    private final boolean[] isReached = new boolean[MOST_INSTRUCTIONS];
    private final int[] carriedAlways = new int[MOST_INSTRUCTIONS];
    private final int[] carriedSometimes = new int[MOST_INSTRUCTIONS];

    private final int[] sourceValues = new int[VALUES];
    private final int[] recentOuts = new int[KEPT_OUTS];
    private int runStatus = IDLE;
    private int runPosition = 0;
    private int runChoices = 0;
    private int forksDone = 0;
    private int outsDone = 0;

    public AllocChecker() {
    }

    public int set(int v, int p, int n) {
        if (!isValue(v) || !isPlace(p)) {
            return BAD;
        }
        return append(SET, v, p, n);
    }

    public int add(int values, int places) {
        if (values < 0 || values > 63 || !areThreePlaces(places)) {
            return BAD;
        }
        return append(ADD, values, places, 0);
    }

    public int move(int p, int q) {
        if (!isPlace(p) || !isPlace(q)) {
            return BAD;
        }
        return append(MOVE, 0, p + 8 * q, 0);
    }

    public int out(int a, int p) {
        if (!isValue(a) || !isPlace(p)) {
            return BAD;
        }
        return append(OUT, 4 * a, 8 * p, 0);
    }

    public int same(int v, int a) {
        if (!isValue(v) || !isValue(a)) {
            return BAD;
        }
        return append(SAME, v + 4 * a, 0, 0);
    }

    public int flow(int kind, int t) {
        switch (kind) {
            case 0:
                return append(FORK, 0, 0, t);
            case 1:
                return append(JUMP, 0, 0, t);
            case 2:
                return append(STOP, 0, 0, 0);
            default:
                return BAD;
        }
    }

    public int drop() {
        if (count == 0) {
            return BAD;
        }
        count--;
        endRun();
        followAllWalks();
        return count;
    }

    public int length() {
        return count;
    }

    public boolean sound() {
        for (int p = 0; p < count; p++) {
            if (faults(p) != 0) {
                return false;
            }
        }
        return count > 0;
    }

    public int faults(int p) {
        if (!reached(p)) {
            return 0;
        }
        int operation = operations[p];
        int noted = canLeave(p) ? LEAVES : 0;
        if ((operation == ADD || operation == OUT) && !alwaysCarries(p, firstPlace[p], firstValue[p])) {
            noted += FIRST;
        }
        if (operation == ADD && !alwaysCarries(p, secondPlace[p], secondValue[p])) {
            noted += SECOND;
        }
        return noted;
    }

    public boolean reached(int p) {
        return isPosition(p) && isReached[p];
    }

    public int carries(int p, int q) {
        if (!reached(p) || !isPlace(q)) {
            return 0;
        }
        int always = (carriedAlways[p] >>> (VALUES * q)) & ALL_VALUES_OF_PLACE_0;
        int sometimes = (carriedSometimes[p] >>> (VALUES * q)) & ALL_VALUES_OF_PLACE_0;
        return always | (sometimes << VALUES);
    }

    public boolean start(int choices) {
        if (!sound()) {
            return false;
        }
        for (int v = 0; v < VALUES; v++) {
            sourceValues[v] = 0;
        }
        runStatus = RUNNING;
        runPosition = 0;
        runChoices = choices;
        forksDone = 0;
        outsDone = 0;
        return true;
    }

    public int step(int n) {
        int limit = n > MOST_STEPS ? MOST_STEPS : n;
        int done = 0;
        // A run never leaves a sound program; its position is looked at all the same before it is an index.
        while (done < limit && runStatus == RUNNING && isPosition(runPosition)) {
            carryOut(runPosition);
            done++;
        }
        return done;
    }

    public int status() {
        return runStatus;
    }

    public int outs() {
        return outsDone;
    }

    public int lastOut(int k) {
        if (k < 0 || k >= KEPT_OUTS || k >= outsDone) {
            return 0;
        }
        return recentOuts[(outsDone - 1 - k) & (KEPT_OUTS - 1)];
    }

    private static boolean isValue(int v) {
        return v >= 0 && v < VALUES;
    }

    private static boolean isPlace(int p) {
        return p >= 0 && p < PLACES;
    }

    private static boolean areThreePlaces(int places) {
        return places >= 0 && (places & 7) < PLACES && ((places >> 3) & 7) < PLACES && (places >> 6) < PLACES;
    }

    private boolean isPosition(int p) {
        return p >= 0 && p < count;
    }

    /** Takes values and places packed as in add, whatever the operation: what it does not use is 0. */
    private int append(int operation, int values, int places, int number) {
        if (count >= MOST_INSTRUCTIONS) {
            return FULL;
        }
        int p = count;
        operations[p] = operation;
        writtenValue[p] = values & 3;
        firstValue[p] = (values >> 2) & 3;
        secondValue[p] = (values >> 4) & 3;
        writtenPlace[p] = places & 7;
        firstPlace[p] = (places >> 3) & 7;
        secondPlace[p] = (places >> 6) & 7;
        numbers[p] = number;
        count++;
        endRun();
        followAllWalks();
        return p;
    }

    private void endRun() {
        runStatus = IDLE;
        outsDone = 0;
    }

    /**
     * Each bit of what is carried after an instruction is a constant or one bit of what was carried before it,
     * so to join the walks at each position loses nothing against following them one by one.
     */
    private void followAllWalks() {
        for (int p = 0; p < MOST_INSTRUCTIONS; p++) {
            isReached[p] = false;
        }
        if (count == 0) {
            return;
        }
        arrive(0, 0, 0);
        boolean isNew = true;
        for (int pass = 0; isNew && pass < MOST_PASSES; pass++) {
            isNew = false;
            for (int p = 0; p < count; p++) {
                if (isReached[p] && goOnFrom(p)) {
                    isNew = true;
                }
            }
        }
    }

    /** Answers whether a position that follows p learnt something by it. */
    private boolean goOnFrom(int p) {
        int always = carriedAfter(p, carriedAlways[p]);
        int sometimes = carriedAfter(p, carriedSometimes[p]);
        boolean isNew = false;
        if (canGoToNext(p) && isPosition(p + 1)) {
            isNew = arrive(p + 1, always, sometimes);
        }
        if (canGoToTarget(p) && isPosition(numbers[p]) && arrive(numbers[p], always, sometimes)) {
            isNew = true;
        }
        return isNew;
    }

    private boolean arrive(int p, int always, int sometimes) {
        if (!isReached[p]) {
            isReached[p] = true;
            carriedAlways[p] = always;
            carriedSometimes[p] = sometimes;
            return true;
        }
        int alwaysNow = carriedAlways[p] & always;
        int sometimesNow = carriedSometimes[p] | sometimes;
        boolean isNew = alwaysNow != carriedAlways[p] || sometimesNow != carriedSometimes[p];
        carriedAlways[p] = alwaysNow;
        carriedSometimes[p] = sometimesNow;
        return isNew;
    }

    private int carriedAfter(int p, int carried) {
        int v = writtenValue[p];
        int writtenShift = VALUES * writtenPlace[p];
        int placeMask = ALL_VALUES_OF_PLACE_0 << writtenShift;
        int valueMask = VALUE_0_IN_ALL_PLACES << v;
        switch (operations[p]) {
            case SET:
            case ADD:
                return (carried & ~placeMask & ~valueMask) | (1 << (writtenShift + v));
            case MOVE:
                int moved = (carried >>> (VALUES * firstPlace[p])) & ALL_VALUES_OF_PLACE_0;
                return (carried & ~placeMask) | (moved << writtenShift);
            case SAME:
                int carriers = (carried >>> firstValue[p]) & VALUE_0_IN_ALL_PLACES;
                return (carried & ~valueMask) | (carriers << v);
            default:
                return carried;
        }
    }

    private boolean canGoToNext(int p) {
        return operations[p] != JUMP && operations[p] != STOP;
    }

    private boolean canGoToTarget(int p) {
        return operations[p] == FORK || operations[p] == JUMP;
    }

    private boolean canLeave(int p) {
        return (canGoToNext(p) && !isPosition(p + 1)) || (canGoToTarget(p) && !isPosition(numbers[p]));
    }

    private boolean alwaysCarries(int p, int place, int value) {
        return ((carriedAlways[p] >>> (VALUES * place + value)) & 1) == 1;
    }

    /** Runs the source side alone: in a sound program the machine side puts out the same numbers. */
    private void carryOut(int p) {
        int v = writtenValue[p];
        int a = firstValue[p];
        runPosition = p + 1;
        switch (operations[p]) {
            case SET:
                sourceValues[v] = numbers[p];
                break;
            case ADD:
                sourceValues[v] = sourceValues[a] + sourceValues[secondValue[p]];
                break;
            case OUT:
                putOut(sourceValues[a]);
                break;
            case SAME:
                sourceValues[v] = sourceValues[a];
                break;
            case FORK:
                runPosition = nextChoice() ? numbers[p] : p + 1;
                break;
            case JUMP:
                runPosition = numbers[p];
                break;
            case STOP:
                runStatus = STOPPED;
                break;
            default:
                break;
        }
    }

    private void putOut(int number) {
        recentOuts[outsDone & (KEPT_OUTS - 1)] = number;
        outsDone++;
    }

    private boolean nextChoice() {
        int bit = forksDone & 31;
        forksDone++;
        return ((runChoices >>> bit) & 1) == 1;
    }
}

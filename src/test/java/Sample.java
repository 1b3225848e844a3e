/** Objects brought to a state to begin a test with, and a picture of all that an object shows. */
final class Sample {
    private Sample() {
    }

    /** A loop that adds 1 to 5 and puts the sum out, until a decision lets it STOP; 6 instructions, sound. */
    static AllocChecker counting() {
        AllocChecker x = new AllocChecker();
        x.set(0, 0, 5);
        x.set(1, 1, 1);
        x.add(0 + 4 * 0 + 16 * 1, 0 + 8 * 0 + 64 * 1);
        x.out(0, 0);
        x.flow(0, 2);
        x.flow(2, 0);
        return x;
    }

    /** The same within its second round of four: 6 and 7 are put out, the second decision comes next. */
    static AllocChecker running() {
        AllocChecker x = counting();
        x.start(7);
        x.step(7);
        return x;
    }

    /** The same at its end: 6, 7, 8 and 9 are put out. */
    static AllocChecker stopped() {
        AllocChecker x = running();
        x.step(64);
        return x;
    }

    /** The loop in a full program, with its STOP as the last instruction, which a walk reaches. */
    static AllocChecker full() {
        AllocChecker x = counting();
        x.drop();
        for (int i = 0; i < 8; i++) {
            x.move(4, 1);
        }
        x.flow(2, 0);
        return x;
    }

    static AllocChecker fullAndRunning() {
        AllocChecker x = full();
        x.start(7);
        x.step(7);
        return x;
    }

    /** As many STOPs. */
    static AllocChecker ofLength(int length) {
        AllocChecker x = new AllocChecker();
        for (int i = 0; i < length; i++) {
            x.flow(2, 0);
        }
        return x;
    }

    /** The loop was running, and all its instructions are taken away. */
    static AllocChecker takenAway() {
        AllocChecker x = running();
        for (int i = 0; i < 6; i++) {
            x.drop();
        }
        return x;
    }

    /** Everything that can be asked without a change, in 124 calls. */
    static String seen(AllocChecker x) {
        StringBuilder seen = new StringBuilder();
        seen.append("length ").append(x.length()).append(", sound ").append(x.sound());
        for (int p = -1; p <= 14; p++) {
            seen.append("; ").append(p).append(": ").append(x.faults(p)).append(' ').append(x.reached(p));
            for (int q = 0; q < 5; q++) {
                seen.append(' ').append(x.carries(p, q));
            }
        }
        seen.append("; status ").append(x.status()).append(", outs ").append(x.outs()).append(":");
        for (int k = 0; k < 8; k++) {
            seen.append(' ').append(x.lastOut(k));
        }
        return seen.toString();
    }
}

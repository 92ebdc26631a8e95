import java.math.BigInteger;

/** One operation on two numbers of any size, carried out by a new machine. */
final class Calculation {
    private static final int STORED_BEFORE = -77;

    final int outcome;
    final BigInteger stored;
    final BigInteger xAfter;
    final BigInteger yAfter;

    Calculation(int op, BigInteger x, BigInteger y) {
        FixnumBailout machine = new FixnumBailout();
        Ops.put(machine, 0, x);
        Ops.put(machine, 1, y);
        machine.set(2, STORED_BEFORE);
        outcome = Ops.runAlone(machine, Ops.LOAD, 0, Ops.LOAD, 1, op, 0, Ops.STORE, 2);
        stored = Ops.read(machine, 2);
        xAfter = Ops.read(machine, 0);
        yAfter = Ops.read(machine, 1);
    }

    /** The result in decimal digits, or why there is none. */
    String text() {
        if (outcome == FixnumBailout.DONE) {
            return stored.toString();
        }
        if (!stored.equals(BigInteger.valueOf(STORED_BEFORE))) {
            return "stopped with " + outcome + ", but stored " + stored;
        }
        switch (outcome) {
            case FixnumBailout.ZERO_DIVIDE:
                return "ZERO_DIVIDE";
            case FixnumBailout.TOO_BIG:
                return "TOO_BIG";
            default:
                return "stopped with " + outcome;
        }
    }
}

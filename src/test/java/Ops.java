import java.math.BigInteger;

/** The document's operations by name, and ways to put big numbers into a machine and to read them. */
final class Ops {
    static final int PUSH = 0;
    static final int LOAD = 1;
    static final int STORE = 2;
    static final int ADD = 3;
    static final int SUB = 4;
    static final int MUL = 5;
    static final int DIV = 6;
    static final int MOD = 7;
    static final int LESS = 8;
    static final int IF = 9;
    static final int REPEAT = 10;
    static final int END = 11;

    private static final int CHUNK = 1000000000;

    private Ops() {
    }

    /** Emits pairs of operation and argument; a refusal here is a fault of the machine. */
    static void emitAll(FixnumBailout machine, int... pairs) {
        for (int i = 0; i < pairs.length; i += 2) {
            int answer = machine.emit(pairs[i], pairs[i + 1]);
            if (answer < 0) {
                throw new IllegalStateException("emit(" + pairs[i] + ", " + pairs[i + 1] + ") answered " + answer);
            }
        }
    }

    /** Drops the program, then runs the given one. */
    static int runAlone(FixnumBailout machine, int... pairs) {
        machine.clear();
        emitAll(machine, pairs);
        return machine.run();
    }

    /** Drops the program, and sets a variable to any number of at most 40 digits by means of a new one. */
    static void put(FixnumBailout machine, int variable, BigInteger value) {
        BigInteger chunk = BigInteger.valueOf(CHUNK);
        int[] parts = new int[5];
        BigInteger rest = value;
        for (int i = 0; i < parts.length; i++) {
            BigInteger[] both = rest.divideAndRemainder(chunk);
            parts[i] = both[1].intValueExact();
            rest = both[0];
        }
        machine.clear();
        emitAll(machine, PUSH, parts[4]);
        for (int i = 3; i >= 0; i--) {
            emitAll(machine, PUSH, CHUNK, MUL, 0, PUSH, parts[i], ADD, 0);
        }
        emitAll(machine, STORE, variable);
        int answer = machine.run();
        machine.clear();
        if (answer != FixnumBailout.DONE) {
            throw new IllegalStateException("could not make " + value + ": " + answer);
        }
    }

    /** Reads a variable digit by digit; digits that are no digits, or don't go with the sign, are a fault of the machine. */
    static BigInteger read(FixnumBailout machine, int variable) {
        int digits = machine.digits(variable);
        int sign = machine.sign(variable);
        StringBuilder text = new StringBuilder();
        for (int i = digits - 1; i >= 0; i--) {
            text.append(machine.digit(variable, i));
        }
        boolean wellFormed = text.toString().matches(sign == 0 ? "0" : "[1-9][0-9]*") && text.length() == digits;
        if (!wellFormed) {
            throw new IllegalStateException("variable " + variable + " has the sign " + sign + " and the digits " + text);
        }
        BigInteger value = new BigInteger(text.toString());
        return sign < 0 ? value.negate() : value;
    }
}

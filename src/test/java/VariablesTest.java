import java.math.BigInteger;

/** Promises 4 and 7 to 12: set, sign, digits, digit, compare, isInt, asInt. */
public final class VariablesTest {
    private static final Checks CHECKS = new Checks();
    private static final int[] NO_VARIABLES = {-1, 8, 9, Integer.MIN_VALUE, Integer.MAX_VALUE};
    private static final int[] INTS = {
        0, 1, -1, 9, 10, -10, 99999999, 100000000, -100000000, 100000001, 999999999, 1000000000,
        1073741823, 1073741824, -1073741824, -1073741825, Integer.MAX_VALUE, Integer.MIN_VALUE, Integer.MIN_VALUE + 1};

    public static void main(String[] args) {
        setsInts();
        wrongVariables();
        bigNumbers();
        edgesOfInt();
        comparisons();
        questionsChangeNothing();
        CHECKS.finish();
    }

    private static void setsInts() {
        for (int variable = 0; variable < 8; variable++) {
            for (int value : INTS) {
                FixnumBailout machine = new FixnumBailout();
                CHECKS.due("set(" + variable + ", " + value + ")", machine.set(variable, value), 0);
                due(machine, variable, BigInteger.valueOf(value));
                for (int other = 0; other < 8; other++) {
                    if (other != variable) {
                        due(machine, other, BigInteger.ZERO);
                    }
                }
            }
        }
        FixnumBailout machine = new FixnumBailout();
        Ops.put(machine, 3, BigInteger.TEN.pow(39).negate());
        machine.set(3, 12);
        due(machine, 3, BigInteger.valueOf(12));
        machine.set(3, 0);
        due(machine, 3, BigInteger.ZERO);
    }

    /** What every question answers of a variable that holds the given number. */
    private static void due(FixnumBailout machine, int variable, BigInteger value) {
        String text = value.abs().toString();
        String of = "(" + variable + ") with " + value;
        CHECKS.due("sign" + of, machine.sign(variable), value.signum());
        CHECKS.due("digits" + of, machine.digits(variable), text.length());
        for (int i = 0; i < text.length(); i++) {
            CHECKS.due("digit " + i + of, machine.digit(variable, i), text.charAt(text.length() - 1 - i) - '0');
        }
        for (int i : new int[] {text.length(), 40, 41, 100, Integer.MAX_VALUE}) {
            CHECKS.due("digit " + i + of, machine.digit(variable, i), 0);
        }
        for (int i : new int[] {-1, -8, Integer.MIN_VALUE}) {
            CHECKS.due("digit " + i + of, machine.digit(variable, i), FixnumBailout.BAD_ARGUMENT);
        }
        boolean fits = value.bitLength() < 32;
        CHECKS.due("isInt" + of, machine.isInt(variable), fits);
        CHECKS.due("asInt" + of, machine.asInt(variable), fits ? value.intValue() : 0);
    }

    private static void wrongVariables() {
        FixnumBailout machine = new FixnumBailout();
        for (int v = 0; v < 8; v++) {
            machine.set(v, 100 + v);
        }
        for (int v : NO_VARIABLES) {
            CHECKS.due("set(" + v + ", 1)", machine.set(v, 1), FixnumBailout.BAD_ARGUMENT);
            CHECKS.due("sign(" + v + ")", machine.sign(v), FixnumBailout.BAD_ARGUMENT);
            CHECKS.due("digits(" + v + ")", machine.digits(v), FixnumBailout.BAD_ARGUMENT);
            CHECKS.due("digit(" + v + ", 0)", machine.digit(v, 0), FixnumBailout.BAD_ARGUMENT);
            CHECKS.due("digit(" + v + ", 50)", machine.digit(v, 50), FixnumBailout.BAD_ARGUMENT);
            CHECKS.due("digit(" + v + ", -1)", machine.digit(v, -1), FixnumBailout.BAD_ARGUMENT);
            CHECKS.due("compare(" + v + ", 0)", machine.compare(v, 0), FixnumBailout.BAD_ARGUMENT);
            CHECKS.due("compare(7, " + v + ")", machine.compare(7, v), FixnumBailout.BAD_ARGUMENT);
            CHECKS.due("compare(" + v + ", " + v + ")", machine.compare(v, v), FixnumBailout.BAD_ARGUMENT);
            CHECKS.due("isInt(" + v + ")", machine.isInt(v), false);
            CHECKS.due("asInt(" + v + ")", machine.asInt(v), 0);
        }
        for (int v = 0; v < 8; v++) {
            due(machine, v, BigInteger.valueOf(100 + v));
        }
    }

    private static void bigNumbers() {
        for (int power = 0; power <= 39; power++) {
            BigInteger round = BigInteger.TEN.pow(power);
            for (BigInteger value : new BigInteger[] {
                round, round.subtract(BigInteger.ONE), round.add(BigInteger.ONE),
                round.multiply(BigInteger.valueOf(7)), round.multiply(BigInteger.TEN).subtract(BigInteger.ONE)}) {
                FixnumBailout machine = new FixnumBailout();
                Ops.put(machine, power % 8, value);
                due(machine, power % 8, value);
                Ops.put(machine, 7 - power % 8, value.negate());
                due(machine, 7 - power % 8, value.negate());
            }
        }
        FixnumBailout machine = new FixnumBailout();
        BigInteger mixed = new BigInteger("1234567890918273645546372819012345678987");
        Ops.put(machine, 4, mixed);
        due(machine, 4, mixed);
    }

    private static void edgesOfInt() {
        BigInteger limit = BigInteger.ONE.shiftLeft(31);
        BigInteger wrapped = BigInteger.ONE.shiftLeft(64);
        for (int off = -2; off <= 2; off++) {
            BigInteger small = BigInteger.valueOf(off);
            for (BigInteger value : new BigInteger[] {
                limit.add(small), limit.negate().add(small), limit.shiftLeft(1).add(small), wrapped.add(small),
                wrapped.negate().add(small), BigInteger.TEN.pow(16).add(small), BigInteger.TEN.pow(24).add(small),
                BigInteger.TEN.pow(32).add(small)}) {
                FixnumBailout machine = new FixnumBailout();
                Ops.put(machine, 1, value);
                due(machine, 1, value);
            }
        }
    }

    private static void comparisons() {
        for (BigInteger a : Numbers.EDGES) {
            for (BigInteger b : Numbers.EDGES) {
                FixnumBailout machine = new FixnumBailout();
                Ops.put(machine, 0, a);
                Ops.put(machine, 7, b);
                CHECKS.due("compare of " + a + " and " + b, machine.compare(0, 7), a.compareTo(b));
                CHECKS.due("compare of " + b + " and " + a, machine.compare(7, 0), b.compareTo(a));
                CHECKS.due("compare of " + a + " with itself", machine.compare(0, 0), 0);
            }
        }
    }

    private static void questionsChangeNothing() {
        BigInteger big = BigInteger.TEN.pow(39).subtract(BigInteger.ONE).negate();
        FixnumBailout machine = new FixnumBailout();
        Ops.put(machine, 0, big);
        machine.set(1, -17);
        Ops.emitAll(machine, Ops.REPEAT, 2, Ops.LOAD, 1);
        for (int round = 0; round < 2; round++) {
            due(machine, 0, big);
            due(machine, 1, BigInteger.valueOf(-17));
            CHECKS.due("compare(0, 1)", machine.compare(0, 1), -1);
            CHECKS.due("tokens()", machine.tokens(), 2);
        }
        Ops.emitAll(machine, Ops.LOAD, 1, Ops.ADD, 0, Ops.STORE, 1, Ops.END, 0);
        CHECKS.due("run()", machine.run(), FixnumBailout.DONE);
        due(machine, 1, BigInteger.valueOf(-68));
    }
}

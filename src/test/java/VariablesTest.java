import java.math.BigInteger;
import java.util.function.Consumer;

/** Promises 4 and 7 to 12, sentence by sentence: set, sign, digits, digit, compare, isInt, asInt. */
public final class VariablesTest {
    private static final Checks CHECKS = new Checks();
    private static final int MIN = Integer.MIN_VALUE;
    private static final int MAX = Integer.MAX_VALUE;
    private static final int[] NO_VARIABLES = {-1, 8, MIN, MAX};
    private static final int[] INTS = {
        0, 1, -1, 9, 10, -10, 99999999, 100000000, -100000000, 100000001, 999999999, 1000000000,
        1073741823, 1073741824, -1073741824, -1073741825, MAX - 1, MAX, MIN, MIN + 1};
    private static final int[] UNFINISHED = Programs.join(Programs.telling(), Programs.blocks(2, 1), Programs.pushes(3));
    private static final BigInteger INT_LIMIT = Numbers.powerOfTwo(31);

    public static void main(String[] args) {
        CHECKS.sentence("Promise 4: Sets a variable to an int.", VariablesTest::setToAnInt);
        CHECKS.sentence("Promise 4: variable not in 0 to 7: BAD_ARGUMENT, nothing changes.", VariablesTest::setRefused);
        CHECKS.sentence("Promise 4: Else answers 0.", VariablesTest::setAnswersZero);
        CHECKS.sentence("Terms: The calls below change nothing that any call answers.",
            VariablesTest::questionsChangeNothing);
        CHECKS.sentence("Terms: variable not in 0 to 7: BAD_ARGUMENT.", VariablesTest::questionsOfNoVariable);
        CHECKS.sentence("Promise 7: The variable's sign: -1, 0 or 1.", VariablesTest::signs);
        CHECKS.sentence("Promise 7: (BAD_ARGUMENT is -2.)", VariablesTest::signOfNoVariable);
        CHECKS.sentence("Promise 7: the sign of a 0 that was computed is 0", VariablesTest::signOfComputedZero);
        CHECKS.sentence("Promise 8: How many decimal digits its absolute value has, without leading zeros",
            VariablesTest::numberOfDigits);
        CHECKS.sentence("Promise 8: 1 for the number 0.", VariablesTest::digitsOfZero);
        CHECKS.sentence("Promise 9: Decimal digit number i of its absolute value, i from 0 for the last one",
            VariablesTest::digitFromTheLast);
        CHECKS.sentence("Promise 9: 0 for i beyond its digits", VariablesTest::digitBeyond);
        CHECKS.sentence("Promise 9: i negative: BAD_ARGUMENT too.", VariablesTest::digitNegative);
        CHECKS.sentence("Promise 10: -1 if variable a is less than variable b, 1 if greater.",
            VariablesTest::compareNeighbours);
        CHECKS.sentence("Promise 10: 0 if equal", VariablesTest::compareEqual);
        CHECKS.sentence("Promise 10: One not in 0 to 7: BAD_ARGUMENT.", VariablesTest::compareRefused);
        CHECKS.sentence("Promise 11: Whether the variable's number is that of an int.", VariablesTest::isIntAtItsEdges);
        CHECKS.sentence("Promise 11: False if variable not in 0 to 7.", VariablesTest::isIntOfNoVariable);
        CHECKS.sentence("Promise 12: The variable's number if it is that of an int; else 0",
            VariablesTest::asIntAtItsEdges);
        CHECKS.sentence("Promise 12: 0 also if variable not in 0 to 7.", VariablesTest::asIntOfNoVariable);
        CHECKS.finish();
    }

    private static FixnumBailout holding(int variable, BigInteger value) {
        FixnumBailout machine = new FixnumBailout();
        Ops.put(machine, variable, value);
        return machine;
    }

    private static void changesNothing(String call, Consumer<FixnumBailout> action) {
        for (int[] program : new int[][] {{}, UNFINISHED, Programs.closed(40)}) {
            CHECKS.due("the change by " + call, Alike.changeBy(() -> Machines.filled(program), action), Alike.NO_DIFFERENCE);
        }
    }

    private static void setToAnInt() {
        for (int variable = 0; variable < 8; variable++) {
            for (int value : INTS) {
                FixnumBailout machine = Machines.filled();
                machine.set(variable, value);
                CHECKS.due("number " + variable, Ops.read(machine, variable), BigInteger.valueOf(value));
                int each = variable;
                CHECKS.due("what set(" + variable + ", " + value + ") leaves of a longer number", Alike.difference(
                    () -> afterSet(Machines.filled(UNFINISHED), each, value),
                    () -> afterSet(afterSet(Machines.filled(UNFINISHED), each, 5), each, value)), Alike.NO_DIFFERENCE);
            }
        }
        FixnumBailout machine = new FixnumBailout();
        for (int v = 0; v < 8; v++) {
            machine.set(v, v - 4);
        }
        for (int v = 0; v < 8; v++) {
            CHECKS.due("asInt(" + v + ") when all are set", machine.asInt(v), v - 4);
        }
        CHECKS.due("tokens() after set", machine.tokens(), 0);
    }

    private static FixnumBailout afterSet(FixnumBailout machine, int variable, int value) {
        machine.set(variable, value);
        return machine;
    }

    private static void setRefused() {
        for (int v : NO_VARIABLES) {
            for (int value : new int[] {0, 1, MIN, MAX}) {
                CHECKS.due("set(" + v + ", " + value + ")", Machines.filled().set(v, value), FixnumBailout.BAD_ARGUMENT);
                changesNothing("set(" + v + ", " + value + ")", machine -> machine.set(v, value));
            }
        }
    }

    private static void setAnswersZero() {
        for (int v = 0; v <= 7; v++) {
            for (int value : INTS) {
                CHECKS.due("set(" + v + ", " + value + ")", Machines.filled(UNFINISHED).set(v, value), 0);
            }
        }
    }

    private static void questionsChangeNothing() {
        changesNothing("tokens()", FixnumBailout::tokens);
        for (int v : new int[] {-1, 0, 1, 2, 3, 4, 5, 6, 7, 8, MIN, MAX}) {
            changesNothing("sign(" + v + ")", machine -> machine.sign(v));
            changesNothing("digits(" + v + ")", machine -> machine.digits(v));
            for (int i : new int[] {-1, 0, 1, 39, 40, MIN, MAX}) {
                changesNothing("digit(" + v + ", " + i + ")", machine -> machine.digit(v, i));
            }
            for (int w : new int[] {-1, 0, 2, 5, 7, 8}) {
                changesNothing("compare(" + v + ", " + w + ")", machine -> machine.compare(v, w));
            }
            changesNothing("isInt(" + v + ")", machine -> machine.isInt(v));
            changesNothing("asInt(" + v + ")", machine -> machine.asInt(v));
        }
    }

    private static void questionsOfNoVariable() {
        for (int v : NO_VARIABLES) {
            FixnumBailout machine = Machines.filled();
            CHECKS.due("sign(" + v + ")", machine.sign(v), FixnumBailout.BAD_ARGUMENT);
            CHECKS.due("digits(" + v + ")", machine.digits(v), FixnumBailout.BAD_ARGUMENT);
            for (int i : new int[] {-1, 0, 39, 40, MIN, MAX}) {
                CHECKS.due("digit(" + v + ", " + i + ")", machine.digit(v, i), FixnumBailout.BAD_ARGUMENT);
            }
        }
        FixnumBailout machine = new FixnumBailout();
        for (int v = 0; v <= 7; v++) {
            machine.set(v, -2 - v);
            CHECKS.due("sign(" + v + ")", machine.sign(v), -1);
            CHECKS.due("digits(" + v + ")", machine.digits(v), 1);
            CHECKS.due("digit(" + v + ", 0)", machine.digit(v, 0), 2 + v);
        }
    }

    private static void signs() {
        for (int v = 0; v <= 7; v++) {
            for (BigInteger value : Numbers.EDGES) {
                CHECKS.due("sign of " + value, holding(v, value).sign(v), value.signum());
            }
            for (int value : INTS) {
                CHECKS.due("sign of " + value, afterSet(Machines.filled(), v, value).sign(v), Integer.signum(value));
            }
        }
    }

    private static void signOfNoVariable() {
        for (int v : NO_VARIABLES) {
            CHECKS.due("sign(" + v + ")", new FixnumBailout().sign(v), -2);
            CHECKS.due("sign(" + v + ")", Machines.filled(UNFINISHED).sign(v), -2);
        }
    }

    private static void signOfComputedZero() {
        int[][] zeros = {
            {Ops.LOAD, 2, Ops.LOAD, 2, Ops.SUB, 0}, {Ops.LOAD, 5, Ops.LOAD, 5, Ops.SUB, 0},
            {Ops.PUSH, -1, Ops.PUSH, 1, Ops.ADD, 0}, {Ops.PUSH, 1, Ops.PUSH, -1, Ops.ADD, 0},
            {Ops.LOAD, 5, Ops.PUSH, 0, Ops.MUL, 0}, {Ops.PUSH, 0, Ops.LOAD, 5, Ops.MUL, 0},
            {Ops.PUSH, -1, Ops.PUSH, 2, Ops.DIV, 0}, {Ops.PUSH, 1, Ops.LOAD, 5, Ops.DIV, 0},
            {Ops.PUSH, -6, Ops.PUSH, 3, Ops.MOD, 0}, {Ops.LOAD, 5, Ops.LOAD, 5, Ops.MOD, 0},
            {Ops.PUSH, 0, Ops.PUSH, -1, Ops.MOD, 0}, {Ops.PUSH, 0, Ops.PUSH, 0, Ops.SUB, 0},
            {Ops.PUSH, -1, Ops.PUSH, -1, Ops.LESS, 0}};
        for (int[] zero : zeros) {
            FixnumBailout machine = Machines.filled(Programs.join(zero, Programs.of(Ops.STORE, 0)));
            CHECKS.due("run()", machine.run(), FixnumBailout.DONE);
            CHECKS.due("sign(0)", machine.sign(0), 0);
            CHECKS.due("compare(0, 3)", machine.compare(0, 3), 0);
            CHECKS.due("compare(3, 0)", machine.compare(3, 0), 0);
            CHECKS.due("digits(0)", machine.digits(0), 1);
            CHECKS.due("isInt(0)", machine.isInt(0), true);
        }
    }

    private static void numberOfDigits() {
        for (int n = 1; n <= 40; n++) {
            BigInteger first = Numbers.power(n - 1);
            BigInteger last = Numbers.power(n).subtract(Numbers.ONE);
            int v = n % 8;
            CHECKS.due("digits of " + first, holding(v, first).digits(v), n);
            CHECKS.due("digits of " + last, holding(v, last).digits(v), n);
            CHECKS.due("digits of -" + first, holding(v, first.negate()).digits(v), n);
            CHECKS.due("digits of -" + last, holding(v, last.negate()).digits(v), n);
        }
        CHECKS.due("digits of the greatest int", afterSet(Machines.filled(), 2, MAX).digits(2), 10);
        CHECKS.due("digits of the least int", afterSet(Machines.filled(), 2, MIN).digits(2), 10);
        FixnumBailout shrunk = Machines.filled(Ops.LOAD, 2, Ops.LOAD, 2, Ops.PUSH, 9, Ops.SUB, 0, Ops.SUB, 0, Ops.STORE, 2);
        shrunk.run();
        CHECKS.due("digits of 9, left of 40 digits", shrunk.digits(2), 1);
    }

    private static void digitsOfZero() {
        for (int v = 0; v < 8; v++) {
            CHECKS.due("digits(" + v + ") of a new object", new FixnumBailout().digits(v), 1);
            CHECKS.due("digits(" + v + ") of 0", afterSet(Machines.filled(), v, 0).digits(v), 1);
            CHECKS.due("digits(" + v + ") of 1", afterSet(Machines.filled(), v, 1).digits(v), 1);
            CHECKS.due("digits(" + v + ") of -1", afterSet(Machines.filled(), v, -1).digits(v), 1);
        }
    }

    private static void digitFromTheLast() {
        BigInteger mixed = new BigInteger("1234567890918273645546372819012345678987");
        BigInteger[] longest = {mixed, mixed.negate(), Numbers.LARGEST, Numbers.LEAST, Numbers.power(39)};
        for (BigInteger value : longest) {
            for (int v = 0; v < 8; v++) {
                everyDigit(holding(v, value), v, value);
            }
        }
        for (BigInteger value : Numbers.EDGES) {
            everyDigit(holding(6, value), 6, value);
        }
        for (int value : INTS) {
            everyDigit(afterSet(Machines.filled(), 2, value), 2, BigInteger.valueOf(value));
        }
    }

    private static void everyDigit(FixnumBailout machine, int variable, BigInteger value) {
        String text = value.abs().toString();
        for (int i = 0; i < text.length(); i++) {
            int want = text.charAt(text.length() - 1 - i) - '0';
            CHECKS.due("digit(" + variable + ", " + i + ") of " + value, machine.digit(variable, i), want);
        }
    }

    private static void digitBeyond() {
        for (int n = 1; n <= 40; n++) {
            BigInteger nines = Numbers.power(n).subtract(Numbers.ONE);
            for (BigInteger value : new BigInteger[] {nines, nines.negate()}) {
                FixnumBailout machine = holding(7, value);
                CHECKS.due("the first digit of " + value, machine.digit(7, n - 1), 9);
                for (int i = n; i <= 48; i++) {
                    CHECKS.due("digit(7, " + i + ") of " + value, machine.digit(7, i), 0);
                }
                for (int i : new int[] {64, 80, 112, 1000, 1 << 30, MAX - 1, MAX}) {
                    CHECKS.due("digit(7, " + i + ") of " + value, machine.digit(7, i), 0);
                }
            }
        }
        CHECKS.due("digit(0, 0) of 0", new FixnumBailout().digit(0, 0), 0);
        CHECKS.due("digit(0, 1) of 0", new FixnumBailout().digit(0, 1), 0);
    }

    private static void digitNegative() {
        for (int v = 0; v < 8; v++) {
            for (int i : new int[] {-1, -2, -8, -40, MIN + 1, MIN}) {
                CHECKS.due("digit(" + v + ", " + i + ")", Machines.filled().digit(v, i), FixnumBailout.BAD_ARGUMENT);
            }
        }
        CHECKS.due("digit(2, 0)", Machines.filled().digit(2, 0), 9);
    }

    private static void comparison(BigInteger a, BigInteger b, int want) {
        FixnumBailout machine = holding(0, a);
        Ops.put(machine, 7, b);
        CHECKS.due("compare of " + a + " and " + b, machine.compare(0, 7), want);
        CHECKS.due("compare of " + b + " and " + a, machine.compare(7, 0), -want);
    }

    private static void compareNeighbours() {
        for (BigInteger value : Numbers.EDGES) {
            if (!value.equals(Numbers.LARGEST)) {
                comparison(value, value.add(Numbers.ONE), -1);
            }
            comparison(value, value.negate(), value.signum());
        }
        for (BigInteger a : Numbers.EDGES) {
            for (BigInteger b : Numbers.EDGES) {
                comparison(a, b, a.compareTo(b));
            }
        }
        for (int limb = 0; limb < 40; limb++) {
            comparison(Numbers.power(limb), Numbers.power(limb).subtract(Numbers.ONE), 1);
            comparison(Numbers.power(limb).negate(), Numbers.power(limb).subtract(Numbers.ONE).negate(), -1);
        }
    }

    private static void compareEqual() {
        for (BigInteger value : Numbers.EDGES) {
            comparison(value, value, 0);
        }
        for (int v = 0; v < 8; v++) {
            CHECKS.due("compare(" + v + ", " + v + ")", Machines.filled().compare(v, v), 0);
        }
    }

    private static void compareRefused() {
        for (int bad : NO_VARIABLES) {
            for (int good = 0; good <= 7; good++) {
                FixnumBailout machine = Machines.filled();
                CHECKS.due("compare(" + bad + ", " + good + ")", machine.compare(bad, good), FixnumBailout.BAD_ARGUMENT);
                CHECKS.due("compare(" + good + ", " + bad + ")", machine.compare(good, bad), FixnumBailout.BAD_ARGUMENT);
            }
            for (int other : NO_VARIABLES) {
                CHECKS.due("compare(" + bad + ", " + other + ")", Machines.filled().compare(bad, other),
                    FixnumBailout.BAD_ARGUMENT);
            }
        }
        FixnumBailout machine = new FixnumBailout();
        machine.set(7, 1);
        CHECKS.due("compare(0, 7)", machine.compare(0, 7), -1);
        CHECKS.due("compare(7, 0)", machine.compare(7, 0), 1);
    }

    /** Numbers that are no ints, many of them with an int in their lowest bits or digits. */
    private static BigInteger[] noInts() {
        BigInteger first = INT_LIMIT;
        BigInteger wrapped = Numbers.powerOfTwo(32);
        return new BigInteger[] {
            first, first.add(Numbers.ONE), first.negate().subtract(Numbers.ONE), first.negate().subtract(BigInteger.TWO),
            wrapped.subtract(Numbers.ONE), wrapped, wrapped.negate(), wrapped.add(BigInteger.TEN),
            Numbers.powerOfTwo(63), Numbers.powerOfTwo(63).negate(), Numbers.powerOfTwo(64), Numbers.powerOfTwo(64).negate(),
            Numbers.powerOfTwo(64).add(BigInteger.TEN), Numbers.powerOfTwo(96), Numbers.powerOfTwo(128),
            Numbers.power(10), Numbers.power(16), Numbers.power(24), Numbers.power(32), Numbers.power(39),
            Numbers.power(16).negate(), Numbers.power(24).negate(), Numbers.power(32).negate(),
            Numbers.LARGEST, Numbers.LEAST};
    }

    private static void isIntAtItsEdges() {
        for (BigInteger value : noInts()) {
            CHECKS.due("isInt of " + value, holding(0, value).isInt(0), false);
            CHECKS.due("isInt of " + value, holding(7, value).isInt(7), false);
        }
        for (int value : INTS) {
            CHECKS.due("isInt of " + value, holding(0, BigInteger.valueOf(value)).isInt(0), true);
            CHECKS.due("isInt of " + value, afterSet(Machines.filled(), 5, value).isInt(5), true);
        }
    }

    private static void isIntOfNoVariable() {
        for (int v : NO_VARIABLES) {
            CHECKS.due("isInt(" + v + ")", new FixnumBailout().isInt(v), false);
            CHECKS.due("isInt(" + v + ")", Machines.filled(UNFINISHED).isInt(v), false);
        }
        for (int v = 0; v <= 7; v++) {
            CHECKS.due("isInt(" + v + ")", new FixnumBailout().isInt(v), true);
        }
    }

    private static void asIntAtItsEdges() {
        for (BigInteger value : noInts()) {
            CHECKS.due("asInt of " + value, holding(0, value).asInt(0), 0);
            CHECKS.due("asInt of " + value, holding(7, value).asInt(7), 0);
        }
        for (int value : INTS) {
            CHECKS.due("asInt of " + value, holding(0, BigInteger.valueOf(value)).asInt(0), value);
            CHECKS.due("asInt of " + value, afterSet(Machines.filled(), 5, value).asInt(5), value);
        }
    }

    private static void asIntOfNoVariable() {
        FixnumBailout machine = new FixnumBailout();
        for (int v = 0; v <= 7; v++) {
            machine.set(v, 100 + v);
        }
        for (int v : NO_VARIABLES) {
            CHECKS.due("asInt(" + v + ")", machine.asInt(v), 0);
        }
        for (int v = 0; v <= 7; v++) {
            CHECKS.due("asInt(" + v + ")", machine.asInt(v), 100 + v);
        }
    }
}

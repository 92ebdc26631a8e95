import java.math.BigInteger;

/** The table of operations under "Terms", row by row. */
public final class OperationsTest {
    private static final Checks CHECKS = new Checks();
    private static final int MIN = Integer.MIN_VALUE;
    private static final int MAX = Integer.MAX_VALUE;

    public static void main(String[] args) {
        CHECKS.sentence("Terms: PUSH n pushes the int n", OperationsTest::push);
        CHECKS.sentence("Terms: LOAD v pushes variable v", OperationsTest::load);
        CHECKS.sentence("Terms: STORE v pops x; variable v becomes x", OperationsTest::store);
        CHECKS.sentence("Terms: ADD pops y, then x; pushes x + y", OperationsTest::add);
        CHECKS.sentence("Terms: SUB pops y, then x; pushes x - y", OperationsTest::sub);
        CHECKS.sentence("Terms: MUL pops y, then x; pushes x * y", OperationsTest::mul);
        CHECKS.sentence("Terms: DIV pops y, then x; pushes x / y, rounded toward zero", OperationsTest::div);
        CHECKS.sentence("Terms: DIV: if y is 0 the run stops with ZERO_DIVIDE", () -> zeroDivisor(Ops.DIV));
        CHECKS.sentence("Terms: MOD pushes x - y * (x / y) with that quotient (it has the sign of x, or is 0)",
            OperationsTest::mod);
        CHECKS.sentence("Terms: MOD: y 0 as above", () -> zeroDivisor(Ops.MOD));
        CHECKS.sentence("Terms: a result is that of x and y alone, whatever was calculated before",
            OperationsTest::calculationsInARow);
        CHECKS.sentence("Terms: LESS pops y, then x; pushes 1 if x < y, else 0", OperationsTest::less);
        CHECKS.sentence("Terms: IF pops x; if x is 0 .., else with the next token",
            OperationsTest::ifGoesOnWithTheNextToken);
        CHECKS.sentence("Terms: IF pops x; if x is 0 the run goes on behind the matching END",
            OperationsTest::ifGoesOnBehindItsEnd);
        CHECKS.sentence("Terms: the matching END of an IF with others inside it", OperationsTest::ifInIf);
        CHECKS.sentence("Terms: REPEAT n: the tokens up to the matching END are carried out n times, n 1 to 6",
            OperationsTest::repeatRounds);
        CHECKS.sentence("Terms: a REPEAT inside another has all its rounds in each of the other's",
            OperationsTest::repeatInRepeat);
        CHECKS.sentence("Terms: END ends the innermost open IF or REPEAT", OperationsTest::endOfTheInnermost);
        CHECKS.finish();
    }

    private static void push() {
        for (int n : new int[] {MIN, MIN + 1, -100000000, -99999999, -1, 0, 1, 99999999, 100000000, MAX - 1, MAX}) {
            FixnumBailout machine = Machines.filled(Ops.PUSH, n, Ops.STORE, 2);
            CHECKS.due("run() of PUSH " + n, machine.run(), FixnumBailout.DONE);
            CHECKS.due("PUSH " + n, Ops.read(machine, 2), BigInteger.valueOf(n));
        }
        FixnumBailout six = Machines.with(Ops.PUSH, MIN, Ops.PUSH, MAX, Ops.PUSH, 0, Ops.PUSH, -1, Ops.PUSH, 1, Ops.PUSH, 6,
            Ops.STORE, 5, Ops.STORE, 4, Ops.STORE, 3, Ops.STORE, 2, Ops.STORE, 1, Ops.STORE, 0);
        six.run();
        int[] pushed = {MIN, MAX, 0, -1, 1, 6};
        for (int v = 0; v < 6; v++) {
            CHECKS.due("number " + v + " of a stack of six", six.asInt(v), pushed[v]);
        }
    }

    private static void load() {
        for (int v = 0; v <= 7; v++) {
            FixnumBailout machine = Machines.filled();
            BigInteger value = Ops.read(machine, v);
            Ops.emitAll(machine, Ops.LOAD, v, Ops.STORE, v == 3 ? 4 : 3);
            CHECKS.due("run()", machine.run(), FixnumBailout.DONE);
            CHECKS.due("what LOAD " + v + " pushed", Ops.read(machine, v == 3 ? 4 : 3), value);
            CHECKS.due("variable " + v + " after LOAD", Ops.read(machine, v), value);
        }
        // A number on the stack is the variable's at the time of the LOAD.
        FixnumBailout swapping = Machines.filled(Ops.LOAD, 2, Ops.LOAD, 5, Ops.STORE, 2, Ops.STORE, 5);
        BigInteger two = Ops.read(swapping, 2);
        BigInteger five = Ops.read(swapping, 5);
        swapping.run();
        CHECKS.due("variable 2 after a swap", Ops.read(swapping, 2), five);
        CHECKS.due("variable 5 after a swap", Ops.read(swapping, 5), two);
    }

    private static void store() {
        for (int v = 0; v <= 7; v++) {
            for (int n : new int[] {0, 1, MIN, MAX}) {
                int each = v;
                CHECKS.due("what PUSH " + n + " and STORE " + v + " do, against set", Alike.difference(() -> {
                    FixnumBailout machine = Machines.filled(Ops.PUSH, n, Ops.STORE, each);
                    machine.run();
                    return machine;
                }, () -> {
                    FixnumBailout machine = Machines.filled(Ops.PUSH, n, Ops.STORE, each);
                    machine.set(each, n);
                    return machine;
                }), Alike.NO_DIFFERENCE);
            }
        }
        FixnumBailout machine = Machines.with(Ops.PUSH, 1, Ops.PUSH, 2, Ops.STORE, 7, Ops.STORE, 0);
        machine.run();
        CHECKS.due("the number popped first", machine.asInt(7), 2);
        CHECKS.due("the number popped second", machine.asInt(0), 1);
    }

    private static void calculation(BigInteger x, int op, BigInteger y, String want) {
        CHECKS.due(x + " by operation " + op + " with " + y, new Calculation(op, x, y).text(), want);
    }

    private static void calculation(String x, int op, String y, String want) {
        calculation(new BigInteger(x), op, new BigInteger(y), want);
    }

    private static void add() {
        calculation("5", Ops.ADD, "3", "8");
        calculation("5", Ops.ADD, "-8", "-3");
        calculation("-5", Ops.ADD, "5", "0");
        calculation("2147483647", Ops.ADD, "1", "2147483648");
        calculation("-2147483648", Ops.ADD, "-1", "-2147483649");
        calculation("4294967295", Ops.ADD, "1", "4294967296");
        calculation("9223372036854775807", Ops.ADD, "1", "9223372036854775808");
        calculation("-9223372036854775808", Ops.ADD, "-1", "-9223372036854775809");
        calculation("18446744073709551615", Ops.ADD, "1", "18446744073709551616");
        calculation("340282366920938463463374607431768211455", Ops.ADD, "1", "340282366920938463463374607431768211456");
        for (int exponent = 1; exponent <= 39; exponent++) {
            BigInteger power = Numbers.power(exponent);
            BigInteger nines = power.subtract(Numbers.ONE);
            calculation(nines, Ops.ADD, Numbers.ONE, power.toString());
            calculation(Numbers.ONE.negate(), Ops.ADD, power, nines.toString());
            calculation(nines.negate(), Ops.ADD, Numbers.ONE.negate(), "-" + power);
        }
    }

    private static void sub() {
        calculation("5", Ops.SUB, "3", "2");
        calculation("3", Ops.SUB, "5", "-2");
        calculation("-3", Ops.SUB, "-3", "0");
        calculation("0", Ops.SUB, "-2147483648", "2147483648");
        calculation("2147483647", Ops.SUB, "-1", "2147483648");
        calculation("-2147483648", Ops.SUB, "1", "-2147483649");
        calculation("-9223372036854775808", Ops.SUB, "1", "-9223372036854775809");
        calculation("18446744073709551616", Ops.SUB, "1", "18446744073709551615");
        for (int exponent = 1; exponent <= 39; exponent++) {
            BigInteger power = Numbers.power(exponent);
            BigInteger nines = power.subtract(Numbers.ONE);
            calculation(power, Ops.SUB, Numbers.ONE, nines.toString());
            calculation(Numbers.ONE, Ops.SUB, power, "-" + nines);
            calculation(nines.negate(), Ops.SUB, Numbers.ONE, "-" + power);
        }
    }

    private static void mul() {
        calculation("6", Ops.MUL, "7", "42");
        calculation("-6", Ops.MUL, "7", "-42");
        calculation("6", Ops.MUL, "-7", "-42");
        calculation("-6", Ops.MUL, "-7", "42");
        calculation("0", Ops.MUL, "-7", "0");
        calculation("-2147483648", Ops.MUL, "-1", "2147483648");
        calculation("2147483647", Ops.MUL, "2147483647", "4611686014132420609");
        calculation("-2147483648", Ops.MUL, "-2147483648", "4611686018427387904");
        calculation("9223372036854775808", Ops.MUL, "2", "18446744073709551616");
        calculation("18446744073709551616", Ops.MUL, "18446744073709551616", "340282366920938463463374607431768211456");
        calculation("99999999", Ops.MUL, "99999999", "9999999800000001");
    }

    private static void div() {
        int[][] rounded = {
            {7, 2, 3}, {-7, 2, -3}, {7, -2, -3}, {-7, -2, 3}, {6, 2, 3}, {-6, 2, -3}, {5, 3, 1}, {-5, 3, -1}, {-5, -3, 1},
            {2, 3, 0}, {-2, 3, 0}, {2, -3, 0}, {-2, -3, 0}, {3, 3, 1}, {-3, 3, -1}, {4, 3, 1}, {-4, 3, -1},
            {0, 3, 0}, {0, -3, 0}, {7, 1, 7}, {7, -1, -7}, {MIN, 1, MIN}, {MAX, -1, -MAX},
            {MIN, MAX, -1}, {MAX, MIN, 0}, {MIN, MIN, 1}};
        for (int[] row : rounded) {
            calculation(BigInteger.valueOf(row[0]), Ops.DIV, BigInteger.valueOf(row[1]), "" + row[2]);
        }
        calculation("-2147483648", Ops.DIV, "-1", "2147483648");
        calculation("-9223372036854775808", Ops.DIV, "-1", "9223372036854775808");
        // (10^20 - 1) * (10^20 + 1) is the largest number there is: one less is rounded to one quotient less.
        BigInteger divisor = Numbers.power(20).add(Numbers.ONE);
        calculation(Numbers.LARGEST, Ops.DIV, divisor, "99999999999999999999");
        calculation(Numbers.LARGEST.subtract(Numbers.ONE), Ops.DIV, divisor, "99999999999999999998");
        calculation(Numbers.LEAST, Ops.DIV, divisor, "-99999999999999999999");
        calculation(Numbers.LEAST.add(Numbers.ONE), Ops.DIV, divisor, "-99999999999999999998");
    }

    private static void mod() {
        int[][] left = {
            {7, 2, 1}, {-7, 2, -1}, {7, -2, 1}, {-7, -2, -1}, {6, 2, 0}, {-6, 2, 0}, {6, -2, 0}, {5, 3, 2}, {-5, 3, -2},
            {2, 3, 2}, {-2, 3, -2}, {2, -3, 2}, {-2, -3, -2}, {3, 3, 0}, {-3, 3, 0}, {4, 3, 1}, {-4, 3, -1},
            {0, 3, 0}, {0, -3, 0}, {7, 1, 0}, {7, -1, 0}, {MIN, -1, 0}, {MIN, MAX, -1}, {MAX, MIN, MAX}, {MIN, MIN, 0}};
        for (int[] row : left) {
            calculation(BigInteger.valueOf(row[0]), Ops.MOD, BigInteger.valueOf(row[1]), "" + row[2]);
        }
        BigInteger divisor = Numbers.power(20).add(Numbers.ONE);
        calculation(Numbers.LARGEST, Ops.MOD, divisor, "0");
        calculation(Numbers.LARGEST.subtract(Numbers.ONE), Ops.MOD, divisor, "100000000000000000000");
        calculation(Numbers.LEAST.add(Numbers.ONE), Ops.MOD, divisor, "-100000000000000000000");
        calculation(Numbers.LARGEST.subtract(Numbers.ONE), Ops.MOD, divisor.negate(), "100000000000000000000");
    }

    private static void zeroDivisor(int op) {
        for (BigInteger x : Numbers.EDGES) {
            calculation(x, op, BigInteger.ZERO, "ZERO_DIVIDE");
        }
        calculation("0", op, "1", "0");
        calculation("0", op, "-1", "0");
        // A divisor whose last digits are all 0 is not 0.
        calculation("0", op, "1000000000000000000000000000000000000000", "0");
        FixnumBailout computed = Machines.filled(Ops.LOAD, 2, Ops.LOAD, 2, Ops.LOAD, 2, Ops.SUB, 0, op, 0, Ops.STORE, 2);
        CHECKS.due("run() with a computed divisor 0", computed.run(), FixnumBailout.ZERO_DIVIDE);
        CHECKS.due("variable 2 after it", Ops.read(computed, 2), Numbers.LARGEST);
    }

    private static void calculationsInARow() {
        BigInteger divisor = Numbers.LARGEST.subtract(BigInteger.valueOf(3));
        FixnumBailout machine = new FixnumBailout();
        Ops.put(machine, 0, Numbers.LARGEST);
        Ops.put(machine, 1, divisor);
        Ops.put(machine, 2, Numbers.LARGEST.subtract(BigInteger.valueOf(4)));
        int[] first = Programs.of(Ops.LOAD, 2, Ops.LOAD, 1, Ops.MOD, 0, Ops.STORE, 3);
        int[] longest = Programs.of(Ops.LOAD, 0, Ops.LOAD, 1, Ops.MOD, 0, Ops.STORE, 4);
        int[] shortest = Programs.of(Ops.PUSH, -7, Ops.PUSH, 2, Ops.DIV, 0, Ops.STORE, 5);
        int[] products = Programs.of(Ops.LOAD, 0, Ops.PUSH, 1, Ops.MUL, 0,
            Ops.PUSH, 3, Ops.PUSH, 4, Ops.MUL, 0, Ops.STORE, 6, Ops.STORE, 7);
        Ops.emitAll(machine, Programs.join(first, longest, first, shortest, products));
        for (int run = 0; run < 2; run++) {
            CHECKS.due("run()", machine.run(), FixnumBailout.DONE);
            CHECKS.due("the greatest remainder", Ops.read(machine, 3), divisor.subtract(Numbers.ONE));
            CHECKS.due("a remainder behind it", machine.asInt(4), 3);
            CHECKS.due("a quotient behind that", machine.asInt(5), -3);
            CHECKS.due("a short product behind a long one", machine.asInt(6), 12);
            CHECKS.due("the long product", Ops.read(machine, 7), Numbers.LARGEST);
        }
    }

    private static void less() {
        for (BigInteger x : Numbers.EDGES) {
            calculation(x, Ops.LESS, x, "0");
            calculation(x, Ops.LESS, x.negate(), x.signum() < 0 ? "1" : "0");
            if (!x.equals(Numbers.LARGEST)) {
                calculation(x, Ops.LESS, x.add(Numbers.ONE), "1");
                calculation(x.add(Numbers.ONE), Ops.LESS, x, "0");
            }
        }
    }

    private static FixnumBailout withCondition(BigInteger condition) {
        FixnumBailout machine = new FixnumBailout();
        Ops.put(machine, 0, condition);
        Ops.emitAll(machine, Ops.LOAD, 0, Ops.IF, 0, Ops.PUSH, 3, Ops.STORE, 1, Ops.END, 0, Ops.PUSH, 4, Ops.STORE, 2);
        return machine;
    }

    private static void ifGoesOnWithTheNextToken() {
        for (BigInteger condition : Numbers.EDGES) {
            if (condition.signum() == 0) {
                continue;
            }
            FixnumBailout machine = withCondition(condition);
            CHECKS.due("run() with IF " + condition, machine.run(), FixnumBailout.DONE);
            CHECKS.due("inside IF " + condition, machine.asInt(1), 3);
            CHECKS.due("behind IF " + condition, machine.asInt(2), 4);
        }
        for (int exponent = 0; exponent <= 39; exponent++) {
            FixnumBailout machine = withCondition(Numbers.power(exponent).negate());
            machine.run();
            CHECKS.due("inside IF of 10 to the " + exponent + "th, negative", machine.asInt(1), 3);
        }
    }

    private static void ifGoesOnBehindItsEnd() {
        FixnumBailout zero = withCondition(BigInteger.ZERO);
        CHECKS.due("run() with IF 0", zero.run(), FixnumBailout.DONE);
        CHECKS.due("inside IF 0", zero.asInt(1), 0);
        CHECKS.due("behind IF 0", zero.asInt(2), 4);
        FixnumBailout skipping = Machines.with(
            Ops.PUSH, 0, Ops.IF, 0, Ops.PUSH, 1, Ops.PUSH, 0, Ops.DIV, 0, Ops.STORE, 0, Ops.END, 0);
        CHECKS.due("run() of a skipped division by 0", skipping.run(), FixnumBailout.DONE);
        for (int condition = 0; condition <= 1; condition++) {
            FixnumBailout empty = Machines.with(Ops.PUSH, condition, Ops.IF, 0, Ops.END, 0, Ops.PUSH, 9, Ops.STORE, 7);
            CHECKS.due("run() of an empty IF " + condition, empty.run(), FixnumBailout.DONE);
            CHECKS.due("behind an empty IF " + condition, empty.asInt(7), 9);
        }
        FixnumBailout skippedRounds = Machines.with(Programs.join(Programs.of(Ops.PUSH, 0, Ops.IF, 0, Ops.REPEAT, 6),
            Programs.count(0), Programs.ends(2), Programs.count(1)));
        skippedRounds.run();
        CHECKS.due("inside a skipped REPEAT", skippedRounds.asInt(0), 0);
        CHECKS.due("behind a skipped REPEAT", skippedRounds.asInt(1), 1);
    }

    private static void ifInIf() {
        for (int bits = 0; bits < 8; bits++) {
            nestedIfs(bits & 1, bits >> 1 & 1, bits >> 2);
        }
    }

    private static void nestedIfs(int outer, int middle, int inner) {
        FixnumBailout machine = Machines.with(Programs.join(
            Programs.of(Ops.PUSH, outer, Ops.IF, 0, Ops.PUSH, middle, Ops.IF, 0, Ops.PUSH, inner, Ops.IF, 0),
            Programs.count(0), Programs.ends(1), Programs.count(1), Programs.ends(1),
            Programs.count(2), Programs.ends(1), Programs.count(3)));
        String of = "IF " + outer + ", IF " + middle + ", IF " + inner;
        CHECKS.due("run() of " + of, machine.run(), FixnumBailout.DONE);
        CHECKS.due("innermost of " + of, machine.asInt(0), outer * middle * inner);
        CHECKS.due("behind the first END of " + of, machine.asInt(1), outer * middle);
        CHECKS.due("behind the second END of " + of, machine.asInt(2), outer);
        CHECKS.due("behind the third END of " + of, machine.asInt(3), 1);
    }

    private static void repeatRounds() {
        for (int n = 1; n <= 6; n++) {
            FixnumBailout machine = Machines.with(Programs.join(
                Programs.count(2), Programs.of(Ops.REPEAT, n), Programs.count(0), Programs.ends(1), Programs.count(1)));
            for (int run = 1; run <= 3; run++) {
                CHECKS.due("run() of REPEAT " + n, machine.run(), FixnumBailout.DONE);
                CHECKS.due("rounds of REPEAT " + n + " in run " + run, machine.asInt(0), n * run);
                CHECKS.due("ahead of REPEAT " + n + " in run " + run, machine.asInt(2), run);
                CHECKS.due("behind REPEAT " + n + " in run " + run, machine.asInt(1), run);
            }
            FixnumBailout empty = Machines.with(Ops.REPEAT, n, Ops.END, 0, Ops.PUSH, 9, Ops.STORE, 7);
            CHECKS.due("run() of an empty REPEAT " + n, empty.run(), FixnumBailout.DONE);
            CHECKS.due("behind an empty REPEAT " + n, empty.asInt(7), 9);
        }
    }

    private static void repeatInRepeat() {
        for (int n = 1; n <= 6; n++) {
            for (int m = 1; m <= 6; m++) {
                FixnumBailout machine = Machines.with(Programs.join(
                    Programs.of(Ops.REPEAT, n), Programs.count(0),
                    Programs.of(Ops.REPEAT, m), Programs.count(1),
                    Programs.of(Ops.REPEAT, 7 - n), Programs.count(2), Programs.ends(2),
                    Programs.of(Ops.REPEAT, 2), Programs.count(3), Programs.ends(2), Programs.count(4)));
                CHECKS.due("run()", machine.run(), FixnumBailout.DONE);
                CHECKS.due("rounds of " + n, machine.asInt(0), n);
                CHECKS.due("rounds of " + m + " in " + n, machine.asInt(1), n * m);
                CHECKS.due("rounds of " + (7 - n) + " in " + m + " in " + n, machine.asInt(2), n * m * (7 - n));
                CHECKS.due("rounds of 2 in " + n, machine.asInt(3), n * 2);
                CHECKS.due("behind the rounds", machine.asInt(4), 1);
            }
        }
    }

    private static void endOfTheInnermost() {
        int[] odd = Programs.of(Ops.LOAD, 0, Ops.PUSH, 2, Ops.MOD, 0, Ops.IF, 0);
        FixnumBailout ifInside = Machines.with(Programs.join(
            Programs.of(Ops.REPEAT, 5), Programs.count(0), odd,
            Programs.of(Ops.REPEAT, 3), Programs.count(1), Programs.ends(1), Programs.count(2), Programs.ends(1),
            Programs.count(3), Programs.ends(1), Programs.count(4)));
        CHECKS.due("run()", ifInside.run(), FixnumBailout.DONE);
        int[] counts = {5, 9, 3, 5, 1};
        for (int v = 0; v < counts.length; v++) {
            CHECKS.due("count " + v + " of REPEAT in IF in REPEAT", ifInside.asInt(v), counts[v]);
        }
        FixnumBailout inARow = Machines.with(Programs.join(
            Programs.of(Ops.REPEAT, 2, Ops.PUSH, 1, Ops.IF, 0), Programs.count(0),
            Programs.of(Ops.END, 0, Ops.PUSH, 0, Ops.IF, 0), Programs.count(1),
            Programs.of(Ops.END, 0, Ops.REPEAT, 3), Programs.count(2), Programs.ends(2)));
        CHECKS.due("run()", inARow.run(), FixnumBailout.DONE);
        int[] inARowCounts = {2, 0, 6};
        for (int v = 0; v < inARowCounts.length; v++) {
            CHECKS.due("count " + v + " of blocks in a row", inARow.asInt(v), inARowCounts[v]);
        }
    }
}

import java.math.BigInteger;

/** What the document says of the object and under "Terms", sentence by sentence, but for the table of operations. */
public final class TermsTest {
    private static final Checks CHECKS = new Checks();
    private static final String LIMIT = "Terms: if the result has more than 40 decimal digits the run stops with TOO_BIG: ";

    public static void main(String[] args) {
        CHECKS.sentence("What it is: A machine for whole numbers without a fixed width.", TermsTest::noFixedWidth);
        CHECKS.sentence("What it is: An object is used for at most 512 calls after it has been made",
            TermsTest::fiveHundredTwelveCalls);
        CHECKS.sentence("Terms: Eight variables (0 to 7) hold whole numbers, all 0 at the start.",
            TermsTest::eightVariables);
        CHECKS.sentence("Terms: A PROGRAM is a list of at most 40 tokens", TermsTest::fortyTokens);
        CHECKS.sentence(LIMIT + "ADD", () -> limitOfSums(Ops.ADD));
        CHECKS.sentence(LIMIT + "SUB", () -> limitOfSums(Ops.SUB));
        CHECKS.sentence(LIMIT + "MUL", TermsTest::limitOfMul);
        CHECKS.sentence("Terms: DIV, MOD and LESS of numbers of 40 digits are never too big",
            TermsTest::limitOfDivAndMod);
        CHECKS.sentence("Terms: a result on the way counts too, though what is made of it would be small",
            TermsTest::limitOfWhatIsBetween);
        CHECKS.sentence("Terms: PUSH and LOAD add 1; STORE, ADD, SUB, MUL, DIV, MOD, LESS and IF take 1 away; "
            + "others change nothing.", TermsTest::depthOfEveryOperation);
        CHECKS.sentence("Terms: It is the same in every run, as IF, REPEAT and END need the stack empty.",
            TermsTest::depthIsTheSameInEveryRun);
        CHECKS.finish();
    }

    private static void noFixedWidth() {
        for (int start : new int[] {1, -1}) {
            FixnumBailout doubling = Machines.with(Ops.LOAD, 0, Ops.PUSH, 2, Ops.MUL, 0, Ops.STORE, 0);
            doubling.set(0, start);
            for (int exponent = 0; exponent <= 132; exponent++) {
                width(doubling, exponent, start);
                CHECKS.due("run()", doubling.run(), exponent == 132 ? FixnumBailout.TOO_BIG : FixnumBailout.DONE);
            }
            FixnumBailout halving = new FixnumBailout();
            Ops.put(halving, 0, Numbers.powerOfTwo(132).multiply(BigInteger.valueOf(start)));
            Ops.emitAll(halving, Ops.LOAD, 0, Ops.PUSH, 2, Ops.DIV, 0, Ops.STORE, 0);
            for (int exponent = 132; exponent >= 0; exponent--) {
                width(halving, exponent, start);
                CHECKS.due("run()", halving.run(), FixnumBailout.DONE);
            }
            CHECKS.due("half of " + start, halving.sign(0), 0);
        }
    }

    private static void width(FixnumBailout machine, int exponent, int sign) {
        String of = " of 2 to the " + exponent + "th by " + sign;
        CHECKS.due("digits" + of, machine.digits(0), Numbers.powerOfTwo(exponent).toString().length());
        CHECKS.due("isInt" + of, machine.isInt(0), exponent <= 30 || exponent == 31 && sign < 0);
    }

    private static void fiveHundredTwelveCalls() {
        FixnumBailout counting = Machines.with(Programs.count(0));
        for (int call = 5; call <= 511; call++) {
            CHECKS.due("run() as call " + call, counting.run(), FixnumBailout.DONE);
        }
        CHECKS.due("asInt(0) as call 512", counting.asInt(0), 507);

        FixnumBailout emptied = new FixnumBailout();
        for (int call = 1; call <= 511; call++) {
            if (call % 2 == 0) {
                emptied.clear();
            } else {
                CHECKS.due("emit as call " + call, emptied.emit(Ops.REPEAT, 6), 0);
            }
        }
        CHECKS.due("emit as call 512", emptied.emit(Ops.REPEAT, 6), 1);

        FixnumBailout refusing = new FixnumBailout();
        for (int call = 1; call <= 511; call++) {
            CHECKS.due("emit as call " + call, refusing.emit(12, 0), FixnumBailout.BAD_OP);
        }
        CHECKS.due("tokens() as call 512", refusing.tokens(), 0);
    }

    private static void eightVariables() {
        FixnumBailout machine = new FixnumBailout();
        for (int v = 0; v <= 7; v++) {
            CHECKS.due("variable " + v + " at the start", Ops.read(machine, v), BigInteger.ZERO);
        }
        Ops.put(machine, 0, Numbers.LEAST);
        for (int v = 1; v <= 7; v++) {
            Ops.emitAll(machine, Ops.LOAD, 0, Ops.PUSH, v, Ops.ADD, 0, Ops.STORE, v);
        }
        CHECKS.due("run()", machine.run(), FixnumBailout.DONE);
        for (int v = 0; v <= 7; v++) {
            CHECKS.due("variable " + v, Ops.read(machine, v), Numbers.LEAST.add(BigInteger.valueOf(v)));
        }
    }

    private static void fortyTokens() {
        FixnumBailout machine = Machines.with(Programs.closed(38));
        CHECKS.due("emit of the 39th token", machine.emit(Ops.PUSH, 987), 38);
        CHECKS.due("emit of the 40th token", machine.emit(Ops.STORE, 4), 39);
        CHECKS.due("emit of a 41st token", machine.emit(Ops.PUSH, 1), FixnumBailout.CODE_FULL);
        CHECKS.due("run()", machine.run(), FixnumBailout.DONE);
        CHECKS.due("what the 40th token stored", machine.asInt(4), 987);

        int[] rounds = Programs.of(Ops.REPEAT, 6, Ops.REPEAT, 6, Ops.REPEAT, 6);
        int[] inside = Programs.of(Ops.PUSH, -1, Ops.STORE, 0);
        for (int v = 7; v >= 0; v--) {
            inside = Programs.join(Programs.count(v), inside);
        }
        FixnumBailout longest = Machines.with(Programs.join(rounds, inside, Programs.ends(3)));
        CHECKS.due("tokens of the longest run", longest.tokens(), 40);
        CHECKS.due("the longest run", longest.run(), FixnumBailout.DONE);
        CHECKS.due("its last STORE", longest.asInt(0), -1);
        for (int v = 1; v <= 7; v++) {
            CHECKS.due("its rounds by variable " + v, longest.asInt(v), 216);
        }
    }

    private static void calculation(BigInteger x, int op, BigInteger y, String want) {
        CHECKS.due(x + " by operation " + op + " with " + y, new Calculation(op, x, y).text(), want);
    }

    /** ADD of y, or SUB of what is y with the other sign: both are x + y. */
    private static void sum(int op, BigInteger x, BigInteger y, String want) {
        calculation(x, op, op == Ops.SUB ? y.negate() : y, want);
    }

    private static void limitOfSums(int op) {
        BigInteger half = BigInteger.valueOf(5).multiply(Numbers.power(39));
        for (int sign : new int[] {1, -1}) {
            BigInteger one = BigInteger.valueOf(sign);
            BigInteger largest = Numbers.LARGEST.multiply(one);
            BigInteger signedHalf = half.multiply(one);
            sum(op, largest.subtract(one), one, largest.toString());
            sum(op, one, largest.subtract(one), largest.toString());
            sum(op, largest, BigInteger.ZERO, largest.toString());
            sum(op, BigInteger.ZERO, largest, largest.toString());
            sum(op, largest, one, "TOO_BIG");
            sum(op, one, largest, "TOO_BIG");
            sum(op, largest, largest, "TOO_BIG");
            sum(op, signedHalf, signedHalf.subtract(one), largest.toString());
            sum(op, signedHalf, signedHalf, "TOO_BIG");
            sum(op, largest, largest.negate(), "0");
        }
    }

    private static void limitOfMul() {
        for (int i = 0; i <= 39; i++) {
            calculation(Numbers.power(i), Ops.MUL, Numbers.power(39 - i), Numbers.power(39).toString());
            calculation(Numbers.power(i), Ops.MUL, Numbers.power(39 - i).negate(), "-" + Numbers.power(39));
            if (i != 0) {
                calculation(Numbers.power(i), Ops.MUL, Numbers.power(40 - i), "TOO_BIG");
                calculation(Numbers.power(i).negate(), Ops.MUL, Numbers.power(40 - i), "TOO_BIG");
            }
        }
        BigInteger below = Numbers.power(20).subtract(Numbers.ONE);
        BigInteger above = Numbers.power(20).add(Numbers.ONE);
        BigInteger threes = Numbers.LARGEST.divide(BigInteger.valueOf(3));
        for (int sign : new int[] {1, -1}) {
            BigInteger one = BigInteger.valueOf(sign);
            String largest = Numbers.LARGEST.multiply(one).toString();
            calculation(below, Ops.MUL, above.multiply(one), largest);
            calculation(above, Ops.MUL, Numbers.power(20).multiply(one), "TOO_BIG");
            calculation(BigInteger.valueOf(3), Ops.MUL, threes.multiply(one), largest);
            calculation(BigInteger.valueOf(3), Ops.MUL, threes.add(Numbers.ONE).multiply(one), "TOO_BIG");
            calculation(Numbers.powerOfTwo(40), Ops.MUL, BigInteger.valueOf(5).pow(40).multiply(one), "TOO_BIG");
            calculation(Numbers.powerOfTwo(66), Ops.MUL, Numbers.powerOfTwo(66).multiply(one),
                Numbers.powerOfTwo(132).multiply(one).toString());
            calculation(Numbers.powerOfTwo(67), Ops.MUL, Numbers.powerOfTwo(66).multiply(one), "TOO_BIG");
            calculation(Numbers.LARGEST, Ops.MUL, one, largest);
            calculation(Numbers.LARGEST, Ops.MUL, BigInteger.TWO.multiply(one), "TOO_BIG");
            calculation(Numbers.LARGEST, Ops.MUL, Numbers.LARGEST.multiply(one), "TOO_BIG");
            calculation(Numbers.LARGEST.multiply(one), Ops.MUL, BigInteger.ZERO, "0");
        }
    }

    private static void limitOfDivAndMod() {
        BigInteger largest = Numbers.LARGEST;
        calculation(largest, Ops.DIV, Numbers.ONE, largest.toString());
        calculation(largest, Ops.DIV, Numbers.ONE.negate(), "-" + largest);
        calculation(Numbers.LEAST, Ops.DIV, Numbers.ONE.negate(), largest.toString());
        calculation(largest, Ops.DIV, largest, "1");
        calculation(largest.subtract(Numbers.ONE), Ops.DIV, largest, "0");
        calculation(largest, Ops.MOD, largest, "0");
        calculation(largest.subtract(Numbers.ONE), Ops.MOD, largest, largest.subtract(Numbers.ONE).toString());
        calculation(Numbers.LEAST.add(Numbers.ONE), Ops.MOD, largest, Numbers.LEAST.add(Numbers.ONE).toString());
        calculation(largest, Ops.MOD, largest.subtract(Numbers.ONE), "1");
        calculation(Numbers.LEAST, Ops.LESS, largest, "1");
        calculation(largest, Ops.LESS, Numbers.LEAST, "0");
    }

    private static void limitOfWhatIsBetween() {
        int[][] programs = {
            {Ops.LOAD, 2, Ops.PUSH, 1, Ops.ADD, 0, Ops.PUSH, 1, Ops.SUB, 0, Ops.STORE, 0},
            {Ops.LOAD, 2, Ops.PUSH, 2, Ops.MUL, 0, Ops.PUSH, 2, Ops.DIV, 0, Ops.STORE, 0},
            {Ops.LOAD, 2, Ops.PUSH, -1, Ops.SUB, 0, Ops.PUSH, 0, Ops.MUL, 0, Ops.STORE, 0},
            {Ops.LOAD, 2, Ops.LOAD, 2, Ops.MUL, 0, Ops.PUSH, 7, Ops.LESS, 0, Ops.STORE, 0}};
        for (int[] program : programs) {
            FixnumBailout machine = Machines.filled(program);
            CHECKS.due("run()", machine.run(), FixnumBailout.TOO_BIG);
            CHECKS.due("asInt(0) after it", machine.asInt(0), Integer.MAX_VALUE);
        }
    }

    private static void depthOfEveryOperation() {
        int[] changes = {1, 1, -1, -1, -1, -1, -1, -1, -1, -1, 0, 0};
        for (int op = 0; op <= 11; op++) {
            int accepted = 0;
            for (int depth = 0; depth <= 6; depth++) {
                FixnumBailout machine = Machines.with(Programs.join(Programs.repeats(1), Programs.pushes(depth)));
                if (machine.emit(op, 1) >= 0) {
                    accepted++;
                    CHECKS.due("depth after " + op + " at " + depth, Machines.depthOf(machine), depth + changes[op]);
                }
            }
            int depths = op <= Ops.STORE ? 6 : op <= Ops.LESS ? 5 : 1;
            CHECKS.due("depths at which " + op + " is good", accepted, depths);
        }
        for (int depth = 0; depth <= 6; depth++) {
            CHECKS.due("depth of " + depth + " numbers", Machines.depthOf(Machines.with(Programs.pushes(depth))), depth);
        }
    }

    private static void depthIsTheSameInEveryRun() {
        for (int condition = 0; condition <= 1; condition++) {
            FixnumBailout machine = Machines.with(Ops.LOAD, 0, Ops.IF, 0, Ops.PUSH, 1, Ops.STORE, 1, Ops.END, 0,
                Ops.REPEAT, 3, Ops.PUSH, 1, Ops.STORE, 1, Ops.END, 0);
            machine.set(0, condition);
            CHECKS.due("run()", machine.run(), FixnumBailout.DONE);
            CHECKS.due("emit of a STORE behind it", machine.emit(Ops.STORE, 0), FixnumBailout.STACK_LOW);
            Ops.emitAll(machine, Programs.pushes(6));
            CHECKS.due("emit of a seventh PUSH behind it", machine.emit(Ops.PUSH, 0), FixnumBailout.STACK_HIGH);
            CHECKS.due("depth", Machines.depthOf(machine), 6);
        }
    }
}

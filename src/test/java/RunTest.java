import java.math.BigInteger;

/** Promise 5 and the operations: run. */
public final class RunTest {
    private static final Checks CHECKS = new Checks();
    private static final BigInteger LARGEST = Numbers.TOO_BIG.subtract(BigInteger.ONE);

    public static void main(String[] args) {
        unfinished();
        pushLoadStore();
        orderOnTheStack();
        arithmetic();
        limitOfFortyDigits();
        zeroDivide();
        stoppedRunKeepsWhatWasStored();
        ifBlocks();
        repeatBlocks();
        longestRun();
        runAgain();
        CHECKS.finish();
    }

    private static void unfinished() {
        int[][] programs = {
            {Ops.PUSH, 1},
            {Ops.PUSH, 9, Ops.STORE, 0, Ops.LOAD, 0},
            {Ops.PUSH, 9, Ops.STORE, 0, Ops.REPEAT, 1},
            {Ops.PUSH, 9, Ops.STORE, 0, Ops.PUSH, 0, Ops.IF, 0},
            {Ops.REPEAT, 2, Ops.REPEAT, 2, Ops.PUSH, 9, Ops.STORE, 0, Ops.END, 0},
            {Ops.PUSH, 9, Ops.STORE, 0, Ops.PUSH, 1, Ops.PUSH, 0, Ops.DIV, 0}};
        for (int[] program : programs) {
            FixnumBailout machine = new FixnumBailout();
            machine.set(0, 3);
            CHECKS.due("run() of an unfinished program", Ops.runAlone(machine, program), FixnumBailout.UNFINISHED);
            CHECKS.due("asInt(0) after it", machine.asInt(0), 3);
            CHECKS.due("tokens() after it", machine.tokens(), program.length / 2);
        }
        FixnumBailout machine = new FixnumBailout();
        Ops.emitAll(machine, Ops.REPEAT, 2, Ops.PUSH, 5);
        CHECKS.due("run() with depth 1", machine.run(), FixnumBailout.UNFINISHED);
        Ops.emitAll(machine, Ops.STORE, 0);
        CHECKS.due("run() with an open block", machine.run(), FixnumBailout.UNFINISHED);
        Ops.emitAll(machine, Ops.END, 0);
        CHECKS.due("run() once it is finished", machine.run(), FixnumBailout.DONE);
        CHECKS.due("asInt(0) after it", machine.asInt(0), 5);
    }

    private static void pushLoadStore() {
        for (int value : new int[] {0, 1, -1, 99999999, 100000000, Integer.MAX_VALUE, Integer.MIN_VALUE}) {
            FixnumBailout machine = new FixnumBailout();
            CHECKS.due("run()", Ops.runAlone(machine, Ops.PUSH, value, Ops.STORE, 7), FixnumBailout.DONE);
            CHECKS.due("PUSH of " + value, machine.asInt(7), value);
            CHECKS.due("isInt after PUSH of " + value, machine.isInt(7), true);
        }
        FixnumBailout machine = new FixnumBailout();
        Ops.put(machine, 2, LARGEST.negate());
        CHECKS.due("run()", Ops.runAlone(machine, Ops.LOAD, 2, Ops.STORE, 6), FixnumBailout.DONE);
        CHECKS.due("LOAD and STORE", Ops.read(machine, 6), LARGEST.negate());
        CHECKS.due("what LOAD leaves", Ops.read(machine, 2), LARGEST.negate());
    }

    private static void orderOnTheStack() {
        FixnumBailout machine = new FixnumBailout();
        Ops.runAlone(machine, Ops.PUSH, 1, Ops.PUSH, 2, Ops.PUSH, 3, Ops.PUSH, 4, Ops.PUSH, 5, Ops.PUSH, 6,
            Ops.STORE, 5, Ops.STORE, 4, Ops.STORE, 3, Ops.STORE, 2, Ops.STORE, 1, Ops.STORE, 0);
        for (int v = 0; v < 6; v++) {
            CHECKS.due("variable " + v + " from a stack of six", machine.asInt(v), v + 1);
        }
        Ops.runAlone(machine, Ops.PUSH, 100, Ops.PUSH, 7, Ops.PUSH, 10, Ops.PUSH, 3, Ops.SUB, 0, Ops.SUB, 0,
            Ops.SUB, 0, Ops.STORE, 0);
        CHECKS.due("100 - (7 - (10 - 3))", machine.asInt(0), 100);
        Ops.runAlone(machine, Ops.PUSH, 17, Ops.PUSH, 5, Ops.DIV, 0, Ops.PUSH, 17, Ops.PUSH, 5, Ops.MOD, 0,
            Ops.LESS, 0, Ops.STORE, 0);
        CHECKS.due("17 / 5 < 17 % 5", machine.asInt(0), 0);
    }

    private static BigInteger exact(int op, BigInteger x, BigInteger y) {
        switch (op) {
            case Ops.ADD:
                return x.add(y);
            case Ops.SUB:
                return x.subtract(y);
            case Ops.MUL:
                return x.multiply(y);
            case Ops.DIV:
                return x.divide(y);
            case Ops.MOD:
                return x.remainder(y);
            default:
                return x.compareTo(y) < 0 ? BigInteger.ONE : BigInteger.ZERO;
        }
    }

    private static void calculation(int op, BigInteger x, BigInteger y) {
        FixnumBailout machine = new FixnumBailout();
        Ops.put(machine, 0, x);
        Ops.put(machine, 1, y);
        machine.set(2, -77);
        int answer = Ops.runAlone(machine, Ops.LOAD, 0, Ops.LOAD, 1, op, 0, Ops.STORE, 2);
        String call = x + " with " + y + " by operation " + op;
        boolean byZero = y.signum() == 0 && (op == Ops.DIV || op == Ops.MOD);
        BigInteger result = byZero ? BigInteger.ZERO : exact(op, x, y);
        int want = FixnumBailout.DONE;
        if (byZero) {
            want = FixnumBailout.ZERO_DIVIDE;
        } else if (result.abs().compareTo(Numbers.TOO_BIG) >= 0) {
            want = FixnumBailout.TOO_BIG;
        }
        CHECKS.due("run of " + call, answer, want);
        BigInteger stored = want == FixnumBailout.DONE ? result : BigInteger.valueOf(-77);
        CHECKS.due("result of " + call, Ops.read(machine, 2), stored);
        CHECKS.due("x after " + call, Ops.read(machine, 0), x);
        CHECKS.due("y after " + call, Ops.read(machine, 1), y);
    }

    private static void arithmetic() {
        for (BigInteger x : Numbers.EDGES) {
            for (BigInteger y : Numbers.EDGES) {
                for (int op = Ops.ADD; op <= Ops.LESS; op++) {
                    calculation(op, x, y);
                }
            }
        }
        for (int x = -12; x <= 12; x++) {
            for (int y = -12; y <= 12; y++) {
                for (int op = Ops.ADD; op <= Ops.LESS; op++) {
                    calculation(op, BigInteger.valueOf(x), BigInteger.valueOf(y));
                }
            }
        }
    }

    private static void limitOfFortyDigits() {
        BigInteger one = BigInteger.ONE;
        calculation(Ops.ADD, LARGEST, one);
        calculation(Ops.ADD, LARGEST.subtract(one), one);
        calculation(Ops.SUB, LARGEST.negate(), one);
        calculation(Ops.SUB, LARGEST.negate().add(one), one);
        calculation(Ops.ADD, LARGEST, LARGEST.negate());
        calculation(Ops.MUL, BigInteger.TEN.pow(20), BigInteger.TEN.pow(20));
        calculation(Ops.MUL, BigInteger.TEN.pow(20), BigInteger.TEN.pow(20).subtract(one));
        calculation(Ops.MUL, BigInteger.TEN.pow(20).negate(), BigInteger.TEN.pow(20));
        calculation(Ops.MUL, LARGEST, one.negate());
        calculation(Ops.MUL, LARGEST, LARGEST);
        calculation(Ops.MUL, LARGEST, BigInteger.ZERO);
        calculation(Ops.DIV, LARGEST, one.negate());
        calculation(Ops.MOD, LARGEST.negate(), LARGEST.subtract(one));
        calculation(Ops.LESS, LARGEST.negate(), LARGEST);
    }

    private static void zeroDivide() {
        for (int op : new int[] {Ops.DIV, Ops.MOD}) {
            for (BigInteger x : Numbers.EDGES) {
                calculation(op, x, BigInteger.ZERO);
            }
        }
    }

    private static void stoppedRunKeepsWhatWasStored() {
        FixnumBailout machine = new FixnumBailout();
        int answer = Ops.runAlone(machine, Ops.PUSH, 5, Ops.STORE, 0, Ops.PUSH, 8, Ops.PUSH, 1, Ops.PUSH, 0,
            Ops.MOD, 0, Ops.STORE, 1, Ops.STORE, 2, Ops.PUSH, 6, Ops.STORE, 3);
        CHECKS.due("run() that divides by 0", answer, FixnumBailout.ZERO_DIVIDE);
        CHECKS.due("what was stored before", machine.asInt(0), 5);
        CHECKS.due("what was to get the result", machine.asInt(1), 0);
        CHECKS.due("what was still on the stack", machine.asInt(2), 0);
        CHECKS.due("what was to come", machine.asInt(3), 0);
        CHECKS.due("tokens() after it", machine.tokens(), 10);
        CHECKS.due("emit after it", machine.emit(Ops.STORE, 0), FixnumBailout.STACK_LOW);
        CHECKS.due("run() again", machine.run(), FixnumBailout.ZERO_DIVIDE);

        machine.set(0, 10);
        answer = Ops.runAlone(machine, Ops.REPEAT, 6, Ops.LOAD, 0, Ops.LOAD, 0, Ops.MUL, 0, Ops.STORE, 0, Ops.END, 0);
        CHECKS.due("run() that grows too big", answer, FixnumBailout.TOO_BIG);
        CHECKS.due("the last power that was stored", Ops.read(machine, 0), BigInteger.TEN.pow(32));
        machine.set(0, 1);
        CHECKS.due("run() from the start again", machine.run(), FixnumBailout.DONE);
        CHECKS.due("powers of 1", machine.asInt(0), 1);
    }

    private static void ifBlocks() {
        BigInteger[] conditions = {
            BigInteger.ZERO, BigInteger.ONE, BigInteger.ONE.negate(), BigInteger.TEN.pow(8), BigInteger.TEN.pow(39).negate()};
        for (BigInteger condition : conditions) {
            FixnumBailout machine = new FixnumBailout();
            Ops.put(machine, 0, condition);
            int answer = Ops.runAlone(machine, Ops.LOAD, 0, Ops.IF, 0, Ops.PUSH, 3, Ops.STORE, 1, Ops.END, 0,
                Ops.PUSH, 4, Ops.STORE, 2);
            CHECKS.due("run() with IF " + condition, answer, FixnumBailout.DONE);
            CHECKS.due("inside IF " + condition, machine.asInt(1), condition.signum() == 0 ? 0 : 3);
            CHECKS.due("behind IF " + condition, machine.asInt(2), 4);
        }
        for (int outer = 0; outer <= 1; outer++) {
            for (int inner = 0; inner <= 1; inner++) {
                FixnumBailout machine = new FixnumBailout();
                Ops.runAlone(machine, Ops.PUSH, outer, Ops.IF, 0, Ops.PUSH, inner, Ops.IF, 0, Ops.PUSH, 1, Ops.STORE, 0,
                    Ops.END, 0, Ops.PUSH, 1, Ops.STORE, 1, Ops.END, 0, Ops.PUSH, 1, Ops.STORE, 2);
                CHECKS.due("innermost of IF " + outer + inner, machine.asInt(0), outer * inner);
                CHECKS.due("between of IF " + outer + inner, machine.asInt(1), outer);
                CHECKS.due("behind of IF " + outer + inner, machine.asInt(2), 1);
            }
        }
        FixnumBailout machine = new FixnumBailout();
        CHECKS.due("a skipped division by 0", Ops.runAlone(machine, Ops.PUSH, 0, Ops.IF, 0, Ops.PUSH, 1, Ops.PUSH, 0,
            Ops.DIV, 0, Ops.STORE, 0, Ops.END, 0), FixnumBailout.DONE);
        CHECKS.due("an empty IF", Ops.runAlone(machine, Ops.PUSH, 0, Ops.IF, 0, Ops.END, 0), FixnumBailout.DONE);
        CHECKS.due("an empty IF", Ops.runAlone(machine, Ops.PUSH, 2, Ops.IF, 0, Ops.END, 0), FixnumBailout.DONE);
    }

    /** Emits tokens that add 1 to a variable. */
    private static void count(FixnumBailout machine, int variable) {
        Ops.emitAll(machine, Ops.LOAD, variable, Ops.PUSH, 1, Ops.ADD, 0, Ops.STORE, variable);
    }

    private static void repeatBlocks() {
        for (int n = 1; n <= 6; n++) {
            for (int m = 1; m <= 6; m++) {
                FixnumBailout machine = new FixnumBailout();
                Ops.emitAll(machine, Ops.REPEAT, n);
                count(machine, 0);
                Ops.emitAll(machine, Ops.REPEAT, m);
                count(machine, 1);
                Ops.emitAll(machine, Ops.END, 0, Ops.REPEAT, 2);
                count(machine, 2);
                Ops.emitAll(machine, Ops.END, 0, Ops.END, 0);
                count(machine, 3);
                CHECKS.due("run()", machine.run(), FixnumBailout.DONE);
                CHECKS.due("rounds of " + n, machine.asInt(0), n);
                CHECKS.due("rounds of " + m + " in " + n, machine.asInt(1), n * m);
                CHECKS.due("rounds of 2 in " + n, machine.asInt(2), n * 2);
                CHECKS.due("behind the rounds", machine.asInt(3), 1);
            }
        }
        FixnumBailout machine = new FixnumBailout();
        Ops.emitAll(machine, Ops.REPEAT, 5);
        count(machine, 0);
        Ops.emitAll(machine, Ops.LOAD, 0, Ops.PUSH, 2, Ops.MOD, 0, Ops.IF, 0, Ops.REPEAT, 3);
        count(machine, 1);
        Ops.emitAll(machine, Ops.END, 0, Ops.END, 0, Ops.END, 0);
        CHECKS.due("run()", machine.run(), FixnumBailout.DONE);
        CHECKS.due("rounds", machine.asInt(0), 5);
        CHECKS.due("3 rounds in every odd round of 5", machine.asInt(1), 9);
        CHECKS.due("an empty REPEAT", Ops.runAlone(machine, Ops.REPEAT, 6, Ops.END, 0), FixnumBailout.DONE);
    }

    private static void longestRun() {
        FixnumBailout machine = new FixnumBailout();
        Ops.emitAll(machine, Ops.REPEAT, 6, Ops.REPEAT, 6, Ops.REPEAT, 6);
        for (int i = 0; i < 8; i++) {
            count(machine, i);
        }
        Ops.emitAll(machine, Ops.PUSH, -1, Ops.STORE, 0, Ops.END, 0, Ops.END, 0, Ops.END, 0);
        CHECKS.due("tokens of the longest run", machine.tokens(), 40);
        CHECKS.due("run() of the longest", machine.run(), FixnumBailout.DONE);
        CHECKS.due("its last token", machine.asInt(0), -1);
        for (int i = 1; i < 8; i++) {
            CHECKS.due("rounds of " + i, machine.asInt(i), 216);
        }
    }

    private static void runAgain() {
        FixnumBailout machine = new FixnumBailout();
        count(machine, 0);
        for (int i = 1; i <= 10; i++) {
            CHECKS.due("run() number " + i, machine.run(), FixnumBailout.DONE);
            CHECKS.due("asInt(0) after run " + i, machine.asInt(0), i);
        }
        count(machine, 1);
        CHECKS.due("run() of more tokens", machine.run(), FixnumBailout.DONE);
        CHECKS.due("asInt(0)", machine.asInt(0), 11);
        CHECKS.due("asInt(1)", machine.asInt(1), 1);
    }
}

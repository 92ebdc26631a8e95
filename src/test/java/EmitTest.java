/** Promises 1, 2, 3 and 6, sentence by sentence: a new object, emit, clear, tokens. */
public final class EmitTest {
    private static final Checks CHECKS = new Checks();
    private static final int MIN = Integer.MIN_VALUE;
    private static final int MAX = Integer.MAX_VALUE;
    private static final int[] EMPTY = {};
    private static final int[] OUTSIDE_0_TO_7 = {-1, 8, MIN, MAX};
    private static final int[] OUTSIDE_1_TO_6 = {0, 7, -1, MIN, MAX};
    private static final int[] FULL = Programs.closed(40);

    public static void main(String[] args) {
        CHECKS.sentence("Promise 1: No tokens; all variables 0.", EmitTest::newObject);
        CHECKS.sentence("Promise 2: Appends a token to the program.", EmitTest::appendsAToken);
        CHECKS.sentence("Promise 2: op not in 0 to 11: BAD_OP", EmitTest::badOp);
        CHECKS.sentence("Promise 2: the program has 40 tokens: CODE_FULL", EmitTest::codeFull);
        CHECKS.sentence("Promise 2: op LOAD or STORE with argument not in 0 to 7: BAD_ARGUMENT", EmitTest::badVariable);
        CHECKS.sentence("Promise 2: or REPEAT with argument not in 1 to 6: BAD_ARGUMENT", EmitTest::badRounds);
        CHECKS.sentence("Promise 2: the others don't look at the argument", EmitTest::argumentsNotLookedAt);
        CHECKS.sentence("Promise 2: for PUSH any int is good", EmitTest::anyIntForPush);
        CHECKS.sentence("Promise 2: the depth is below what the operation pops (2 for ADD to LESS, 1 for STORE and IF): "
            + "STACK_LOW", EmitTest::stackLow);
        CHECKS.sentence("Promise 2: PUSH or LOAD at depth 6: STACK_HIGH", EmitTest::stackHigh);
        CHECKS.sentence("Promise 2: IF at a depth other than 1: NOT_EMPTY", EmitTest::notEmptyForIf);
        CHECKS.sentence("Promise 2: REPEAT or END at a depth other than 0: NOT_EMPTY",
            EmitTest::notEmptyForRepeatAndEnd);
        CHECKS.sentence("Promise 2: IF or REPEAT with three blocks open (IF or REPEAT without their END yet): TOO_DEEP",
            EmitTest::tooDeep);
        CHECKS.sentence("Promise 2: END with no block open: NO_BLOCK", EmitTest::noBlock);
        CHECKS.sentence("Promise 2: Tests in this order: CODE_FULL ahead of all but BAD_OP",
            EmitTest::codeFullComesSecond);
        CHECKS.sentence("Promise 2: Tests in this order: BAD_ARGUMENT ahead of what the depth and the blocks refuse",
            EmitTest::badArgumentComesThird);
        CHECKS.sentence("Promise 2: Tests in this order: STACK_LOW, NOT_EMPTY, then TOO_DEEP and NO_BLOCK",
            EmitTest::depthComesBeforeBlocks);
        CHECKS.sentence("Promise 2: A refused call changes nothing.", EmitTest::refusedCallsChangeNothing);
        CHECKS.sentence("Promise 2: A refused call changes nothing, nor do many.", EmitTest::manyRefusedCalls);
        CHECKS.sentence("Promise 2: Else answers the token's index.", EmitTest::indexOfTheToken);
        CHECKS.sentence("Promise 3: Drops all tokens.", EmitTest::clearDropsAllTokens);
        CHECKS.sentence("Promise 3: Variables stay.", EmitTest::clearLetsVariablesStay);
        CHECKS.sentence("Promise 6: How many tokens the program has.", EmitTest::howManyTokens);
        CHECKS.finish();
    }

    private static void accepted(int[] program, int op, int argument) {
        FixnumBailout machine = Machines.with(program);
        int index = program.length / 2;
        String call = "emit(" + op + ", " + argument + ") behind " + index;
        CHECKS.due(call, machine.emit(op, argument), index);
        CHECKS.due("tokens() after " + call, machine.tokens(), index + 1);
    }

    private static void refused(int[] program, int op, int argument, int want) {
        String call = "emit(" + op + ", " + argument + ") behind " + program.length / 2;
        CHECKS.due(call, Machines.filled(program).emit(op, argument), want);
        CHECKS.due("the change by " + call,
            Alike.changeBy(() -> Machines.filled(program), machine -> machine.emit(op, argument)), Alike.NO_DIFFERENCE);
    }

    /** The least program behind which the operation is good. */
    private static int[] programFor(int op) {
        if (op >= Ops.ADD && op <= Ops.LESS) {
            return Programs.pushes(2);
        }
        if (op == Ops.STORE || op == Ops.IF) {
            return Programs.pushes(1);
        }
        return op == Ops.END ? Programs.repeats(1) : EMPTY;
    }

    private static void newObject() {
        FixnumBailout machine = new FixnumBailout();
        CHECKS.due("tokens()", machine.tokens(), 0);
        for (int v = 0; v < 8; v++) {
            CHECKS.due("sign(" + v + ")", machine.sign(v), 0);
            CHECKS.due("digits(" + v + ")", machine.digits(v), 1);
            for (int i = 0; i <= 40; i++) {
                CHECKS.due("digit(" + v + ", " + i + ")", machine.digit(v, i), 0);
            }
            CHECKS.due("isInt(" + v + ")", machine.isInt(v), true);
            CHECKS.due("asInt(" + v + ")", machine.asInt(v), 0);
            CHECKS.due("compare(" + v + ", 0)", machine.compare(v, 0), 0);
        }
        CHECKS.due("the change by clear()", Alike.changeBy(FixnumBailout::new, FixnumBailout::clear), Alike.NO_DIFFERENCE);
        CHECKS.due("what the use of another object changes", Alike.difference(() -> {
            Machines.filled(FULL).run();
            return new FixnumBailout();
        }, FixnumBailout::new), Alike.NO_DIFFERENCE);
    }

    /** Steps of different lengths and numbers: in another order, or with a token lost, another number comes out. */
    private static void appendsAToken() {
        for (boolean shortFirst : new boolean[] {true, false}) {
            FixnumBailout machine = new FixnumBailout();
            int want = 5;
            for (int n = 101; n <= 104; n++) {
                int[] shortStep = Programs.of(Ops.LOAD, 0, Ops.PUSH, n, Ops.ADD, 0, Ops.STORE, 0);
                int[] longStep = Programs.of(
                    Ops.PUSH, 2 * n, Ops.LOAD, 0, Ops.PUSH, 3, Ops.MUL, 0, Ops.SUB, 0, Ops.STORE, 0);
                appendOneByOne(machine, shortFirst ? shortStep : longStep);
                appendOneByOne(machine, shortFirst ? longStep : shortStep);
                want = shortFirst ? 2 * n - 3 * (want + n) : 2 * n - 3 * want + n;
                machine.set(0, 5);
                CHECKS.due("run() of " + machine.tokens() + " tokens", machine.run(), FixnumBailout.DONE);
                CHECKS.due("asInt(0) after it", machine.asInt(0), want);
            }
            CHECKS.due("tokens() at the end", machine.tokens(), 40);
        }
    }

    private static void appendOneByOne(FixnumBailout machine, int... pairs) {
        for (int i = 0; i < pairs.length; i += 2) {
            int index = machine.tokens();
            CHECKS.due("emit of token " + index, machine.emit(pairs[i], pairs[i + 1]), index);
            CHECKS.due("tokens() after it", machine.tokens(), index + 1);
        }
    }

    private static void badOp() {
        for (int op : new int[] {-1, 12, MIN, MAX}) {
            refused(EMPTY, op, 1, FixnumBailout.BAD_OP);
            refused(Programs.join(Programs.repeats(3), Programs.pushes(2)), op, 1, FixnumBailout.BAD_OP);
            // The program has 40 tokens too, but that is looked at behind the op.
            refused(FULL, op, 1, FixnumBailout.BAD_OP);
        }
        for (int op = 0; op <= 11; op++) {
            accepted(programFor(op), op, 1);
        }
    }

    private static void codeFull() {
        for (int op = 0; op <= 11; op++) {
            int[] before = programFor(op);
            int[] with39 = Programs.join(Programs.closed(39 - before.length / 2), before);
            accepted(with39, op, 1);
            refused(Programs.join(with39, Programs.of(op, 1)), op, 1, FixnumBailout.CODE_FULL);
            refused(Programs.join(Programs.closed(40 - before.length / 2), before), op, 1, FixnumBailout.CODE_FULL);
            refused(FULL, op, 1, FixnumBailout.CODE_FULL);
        }
    }

    private static void badVariable() {
        for (int op : new int[] {Ops.LOAD, Ops.STORE}) {
            for (int v : OUTSIDE_0_TO_7) {
                refused(Programs.pushes(1), op, v, FixnumBailout.BAD_ARGUMENT);
            }
            for (int v = 0; v <= 7; v++) {
                accepted(Programs.pushes(1), op, v);
            }
        }
    }

    private static void badRounds() {
        for (int n : OUTSIDE_1_TO_6) {
            refused(EMPTY, Ops.REPEAT, n, FixnumBailout.BAD_ARGUMENT);
            refused(Programs.repeats(2), Ops.REPEAT, n, FixnumBailout.BAD_ARGUMENT);
        }
        for (int n = 1; n <= 6; n++) {
            accepted(EMPTY, Ops.REPEAT, n);
        }
    }

    private static void argumentsNotLookedAt() {
        for (int op = Ops.ADD; op <= Ops.END; op++) {
            if (op == Ops.REPEAT) {
                continue;
            }
            int[] before = Programs.join(Programs.closed(4), programFor(op));
            for (int any : new int[] {-1, 0, 6, 7, 8, MIN, MAX}) {
                accepted(before, op, any);
                int each = op;
                CHECKS.due("what argument " + any + " of " + op + " changes", Alike.difference(
                    () -> Machines.filled(Programs.join(before, Programs.of(each, any))),
                    () -> Machines.filled(Programs.join(before, Programs.of(each, 1)))), Alike.NO_DIFFERENCE);
            }
        }
    }

    private static void anyIntForPush() {
        for (int any : new int[] {MIN, MIN + 1, -100000000, -1, 0, 1, 7, 8, 99999999, 100000000, MAX - 1, MAX}) {
            accepted(EMPTY, Ops.PUSH, any);
            accepted(Programs.pushes(5), Ops.PUSH, any);
        }
    }

    private static void stackLow() {
        int[] emptiedAgain = Programs.of(Ops.PUSH, 1, Ops.STORE, 0);
        int[] inBlock = Programs.of(Ops.PUSH, 1, Ops.IF, 0);
        for (int op = Ops.ADD; op <= Ops.LESS; op++) {
            for (int[] start : new int[][] {EMPTY, emptiedAgain, inBlock}) {
                refused(start, op, 1, FixnumBailout.STACK_LOW);
                refused(Programs.join(start, Programs.pushes(1)), op, 1, FixnumBailout.STACK_LOW);
                accepted(Programs.join(start, Programs.pushes(2)), op, 1);
            }
            refused(Programs.join(Programs.pushes(2), Programs.of(op, 0)), op, 1, FixnumBailout.STACK_LOW);
            accepted(Programs.pushes(6), op, 1);
        }
        for (int[] start : new int[][] {EMPTY, emptiedAgain, inBlock}) {
            refused(start, Ops.STORE, 1, FixnumBailout.STACK_LOW);
            refused(start, Ops.IF, 1, FixnumBailout.STACK_LOW);
            accepted(Programs.join(start, Programs.pushes(1)), Ops.STORE, 1);
            accepted(Programs.join(start, Programs.pushes(1)), Ops.IF, 1);
            accepted(start, Ops.PUSH, 1);
            accepted(start, Ops.LOAD, 1);
            accepted(start, Ops.REPEAT, 1);
        }
        accepted(Programs.pushes(6), Ops.STORE, 1);
    }

    private static void stackHigh() {
        int[] sixAgain = Programs.join(Programs.pushes(6), Programs.of(Ops.ADD, 0, Ops.LOAD, 3));
        for (int op : new int[] {Ops.PUSH, Ops.LOAD}) {
            for (int depth = 0; depth <= 5; depth++) {
                accepted(Programs.pushes(depth), op, 1);
            }
            refused(Programs.pushes(6), op, 1, FixnumBailout.STACK_HIGH);
            refused(sixAgain, op, 1, FixnumBailout.STACK_HIGH);
            refused(Programs.join(Programs.repeats(3), Programs.pushes(6)), op, 1, FixnumBailout.STACK_HIGH);
            accepted(Programs.join(Programs.pushes(6), Programs.of(Ops.STORE, 0)), op, 1);
        }
    }

    private static void notEmptyForIf() {
        for (int depth = 2; depth <= 6; depth++) {
            refused(Programs.pushes(depth), Ops.IF, 1, FixnumBailout.NOT_EMPTY);
            refused(Programs.join(Programs.repeats(2), Programs.pushes(depth)), Ops.IF, 1, FixnumBailout.NOT_EMPTY);
        }
        accepted(Programs.pushes(1), Ops.IF, 1);
        accepted(Programs.join(Programs.pushes(2), Programs.of(Ops.LESS, 0)), Ops.IF, 1);
    }

    private static void notEmptyForRepeatAndEnd() {
        for (int[] start : new int[][] {EMPTY, Programs.repeats(1), Programs.of(Ops.PUSH, 1, Ops.IF, 0)}) {
            for (int depth = 1; depth <= 6; depth++) {
                int[] before = Programs.join(start, Programs.pushes(depth));
                refused(before, Ops.REPEAT, 1, FixnumBailout.NOT_EMPTY);
                refused(before, Ops.END, 1, FixnumBailout.NOT_EMPTY);
            }
            accepted(start, Ops.REPEAT, 1);
            if (start.length != 0) {
                accepted(start, Ops.END, 1);
            }
        }
    }

    private static void tooDeep() {
        for (int bits = 0; bits < 8; bits++) {
            for (int open = 0; open <= 2; open++) {
                accepted(Programs.blocks(open, bits), Ops.REPEAT, 1);
                accepted(Programs.join(Programs.blocks(open, bits), Programs.pushes(1)), Ops.IF, 1);
            }
            int[] three = Programs.blocks(3, bits);
            refused(three, Ops.REPEAT, 1, FixnumBailout.TOO_DEEP);
            refused(Programs.join(three, Programs.pushes(1)), Ops.IF, 1, FixnumBailout.TOO_DEEP);
            int[] oneClosed = Programs.join(three, Programs.ends(1));
            accepted(oneClosed, Ops.REPEAT, 1);
            accepted(Programs.join(oneClosed, Programs.pushes(1)), Ops.IF, 1);
            refused(Programs.join(oneClosed, Programs.repeats(1)), Ops.REPEAT, 1, FixnumBailout.TOO_DEEP);
            // Blocks with their END don't count, however many they are.
            accepted(Programs.join(three, Programs.ends(3), three, Programs.ends(3)), Ops.REPEAT, 1);
        }
    }

    private static void noBlock() {
        refused(EMPTY, Ops.END, 1, FixnumBailout.NO_BLOCK);
        refused(Programs.closed(6), Ops.END, 1, FixnumBailout.NO_BLOCK);
        for (int open = 1; open <= 3; open++) {
            for (int bits = 0; bits < 8; bits++) {
                int[] blocks = Programs.blocks(open, bits);
                accepted(blocks, Ops.END, 1);
                accepted(Programs.join(blocks, Programs.ends(open - 1)), Ops.END, 1);
                refused(Programs.join(blocks, Programs.ends(open)), Ops.END, 1, FixnumBailout.NO_BLOCK);
            }
        }
    }

    private static void codeFullComesSecond() {
        int[] highest = Programs.join(Programs.closed(34), Programs.pushes(6));
        int[] deepest = Programs.join(Programs.closed(37), Programs.repeats(3));
        int[] deepAndOne = Programs.join(Programs.closed(36), Programs.repeats(3), Programs.pushes(1));
        int[] deepAndTwo = Programs.join(Programs.closed(35), Programs.repeats(3), Programs.pushes(2));
        int[][] fullOnes = {FULL, highest, deepest, deepAndOne, deepAndTwo};
        for (int[] program : fullOnes) {
            CHECKS.due("tokens()", Machines.with(program).tokens(), 40);
            for (int op = 0; op <= 11; op++) {
                for (int argument : new int[] {1, 0, 7, 8, -1}) {
                    refused(program, op, argument, FixnumBailout.CODE_FULL);
                }
            }
        }
    }

    private static void badArgumentComesThird() {
        int[] deep = Programs.repeats(3);
        for (int v : OUTSIDE_0_TO_7) {
            refused(EMPTY, Ops.STORE, v, FixnumBailout.BAD_ARGUMENT);
            refused(Programs.pushes(6), Ops.LOAD, v, FixnumBailout.BAD_ARGUMENT);
        }
        for (int n : OUTSIDE_1_TO_6) {
            refused(Programs.pushes(1), Ops.REPEAT, n, FixnumBailout.BAD_ARGUMENT);
            refused(deep, Ops.REPEAT, n, FixnumBailout.BAD_ARGUMENT);
            refused(Programs.join(deep, Programs.pushes(1)), Ops.REPEAT, n, FixnumBailout.BAD_ARGUMENT);
        }
    }

    private static void depthComesBeforeBlocks() {
        int[] deep = Programs.repeats(3);
        refused(EMPTY, Ops.IF, 1, FixnumBailout.STACK_LOW);
        refused(deep, Ops.IF, 1, FixnumBailout.STACK_LOW);
        refused(Programs.join(deep, Programs.pushes(1)), Ops.IF, 1, FixnumBailout.TOO_DEEP);
        for (int depth = 1; depth <= 6; depth++) {
            int[] both = Programs.join(deep, Programs.pushes(depth));
            refused(both, Ops.REPEAT, 1, FixnumBailout.NOT_EMPTY);
            if (depth != 1) {
                refused(both, Ops.IF, 1, FixnumBailout.NOT_EMPTY);
            }
            refused(Programs.pushes(depth), Ops.END, 1, FixnumBailout.NOT_EMPTY);
        }
    }

    private static void refusedCallsChangeNothing() {
        int[] start = Programs.telling();
        int[] deep = Programs.join(start, Programs.blocks(3, 2));
        int[] full = Programs.join(start, start, start, start);
        int[] fullAndOpen = Programs.join(start, start, start, Programs.blocks(3, 2), Programs.pushes(6));
        refused(Programs.join(deep, Programs.pushes(2)), 12, 1, FixnumBailout.BAD_OP);
        refused(full, -1, 1, FixnumBailout.BAD_OP);
        refused(full, Ops.LOAD, 1, FixnumBailout.CODE_FULL);
        refused(full, Ops.END, 1, FixnumBailout.CODE_FULL);
        refused(fullAndOpen, Ops.STORE, 1, FixnumBailout.CODE_FULL);
        refused(Programs.join(Programs.closed(38), Programs.pushes(2)), Ops.ADD, 1, FixnumBailout.CODE_FULL);
        refused(Programs.join(Programs.closed(38), Programs.repeats(2)), Ops.END, 1, FixnumBailout.CODE_FULL);
        refused(Programs.join(deep, Programs.pushes(1)), Ops.STORE, 8, FixnumBailout.BAD_ARGUMENT);
        refused(deep, Ops.LOAD, -1, FixnumBailout.BAD_ARGUMENT);
        refused(start, Ops.REPEAT, 7, FixnumBailout.BAD_ARGUMENT);
        refused(start, Ops.STORE, 1, FixnumBailout.STACK_LOW);
        refused(deep, Ops.STORE, 1, FixnumBailout.STACK_LOW);
        refused(deep, Ops.IF, 1, FixnumBailout.STACK_LOW);
        refused(Programs.join(deep, Programs.pushes(1)), Ops.ADD, 1, FixnumBailout.STACK_LOW);
        refused(Programs.join(deep, Programs.pushes(6)), Ops.PUSH, 1, FixnumBailout.STACK_HIGH);
        refused(Programs.join(deep, Programs.pushes(6)), Ops.LOAD, 1, FixnumBailout.STACK_HIGH);
        refused(Programs.join(deep, Programs.pushes(2)), Ops.IF, 1, FixnumBailout.NOT_EMPTY);
        refused(Programs.join(start, Programs.pushes(1)), Ops.REPEAT, 1, FixnumBailout.NOT_EMPTY);
        refused(Programs.join(deep, Programs.pushes(3)), Ops.END, 1, FixnumBailout.NOT_EMPTY);
        refused(deep, Ops.REPEAT, 1, FixnumBailout.TOO_DEEP);
        refused(Programs.join(deep, Programs.pushes(1)), Ops.IF, 1, FixnumBailout.TOO_DEEP);
        refused(start, Ops.END, 1, FixnumBailout.NO_BLOCK);
    }

    private static void manyRefusedCalls() {
        int[] program = Programs.join(Programs.telling(), Programs.blocks(3, 5), Programs.pushes(6));
        CHECKS.due("the change by many refused calls", Alike.changeBy(() -> Machines.filled(program), machine -> {
            for (int round = 0; round < 10; round++) {
                CHECKS.due("emit(12, 1)", machine.emit(12, 1), FixnumBailout.BAD_OP);
                CHECKS.due("emit(LOAD, 8)", machine.emit(Ops.LOAD, 8), FixnumBailout.BAD_ARGUMENT);
                CHECKS.due("emit(PUSH, 1)", machine.emit(Ops.PUSH, 1), FixnumBailout.STACK_HIGH);
                CHECKS.due("emit(IF, 1)", machine.emit(Ops.IF, 1), FixnumBailout.NOT_EMPTY);
                CHECKS.due("emit(END, 1)", machine.emit(Ops.END, 1), FixnumBailout.NOT_EMPTY);
            }
        }), Alike.NO_DIFFERENCE);
    }

    private static void indexOfTheToken() {
        FixnumBailout machine = new FixnumBailout();
        for (int round = 0; round < 2; round++) {
            for (int index = 0; index < 40; index++) {
                CHECKS.due("emit of a refused token", machine.emit(Ops.ADD, 0), FixnumBailout.STACK_LOW);
                CHECKS.due("emit of token " + index, machine.emit(index % 2 == 0 ? Ops.PUSH : Ops.STORE, 3), index);
            }
            CHECKS.due("emit of one more", machine.emit(Ops.PUSH, 3), FixnumBailout.CODE_FULL);
            machine.clear();
        }
    }

    private static void clearDropsAllTokens() {
        int[][] programs = {
            EMPTY, Programs.pushes(1), Programs.pushes(6), Programs.repeats(1), Programs.repeats(3), FULL,
            Programs.blocks(3, 7), Programs.join(Programs.closed(31), Programs.repeats(3), Programs.pushes(6))};
        for (int[] program : programs) {
            FixnumBailout machine = Machines.filled(program);
            CHECKS.due("tokens()", machine.tokens(), program.length / 2);
            machine.clear();
            CHECKS.due("tokens() after clear()", machine.tokens(), 0);
            CHECKS.due("what clear() of " + program.length / 2 + " tokens leaves", Alike.difference(() -> {
                FixnumBailout cleared = Machines.filled(program);
                cleared.clear();
                return cleared;
            }, Machines::filled), Alike.NO_DIFFERENCE);
        }
    }

    private static void clearLetsVariablesStay() {
        FixnumBailout machine = new FixnumBailout();
        Ops.put(machine, 0, Numbers.LARGEST);
        Ops.put(machine, 7, Numbers.LEAST);
        machine.set(3, -6);
        Ops.runAlone(machine, Ops.PUSH, 4, Ops.STORE, 2, Ops.PUSH, 1, Ops.PUSH, 0, Ops.DIV, 0, Ops.STORE, 3);
        for (int round = 0; round < 2; round++) {
            machine.clear();
            CHECKS.due("variable 0 after clear()", Ops.read(machine, 0), Numbers.LARGEST);
            CHECKS.due("variable 7 after clear()", Ops.read(machine, 7), Numbers.LEAST);
            CHECKS.due("asInt(2) after clear()", machine.asInt(2), 4);
            CHECKS.due("asInt(3) after clear()", machine.asInt(3), -6);
            CHECKS.due("asInt(1) after clear()", machine.asInt(1), 0);
        }
    }

    private static void howManyTokens() {
        FixnumBailout machine = new FixnumBailout();
        for (int count = 0; count < 40; count++) {
            CHECKS.due("tokens()", machine.tokens(), count);
            machine.emit(Ops.END, 0);
            machine.set(0, count);
            machine.run();
            CHECKS.due("tokens() after other calls", machine.tokens(), count);
            machine.emit(count % 2 == 0 ? Ops.PUSH : Ops.STORE, 1);
        }
        CHECKS.due("tokens() when full", machine.tokens(), 40);
        machine.emit(Ops.PUSH, 1);
        CHECKS.due("tokens() after one too many", machine.tokens(), 40);
        machine.run();
        CHECKS.due("tokens() after run()", machine.tokens(), 40);
        machine.clear();
        CHECKS.due("tokens() after clear()", machine.tokens(), 0);
        Ops.runAlone(machine, Ops.PUSH, 1, Ops.PUSH, 0, Ops.DIV, 0, Ops.STORE, 0);
        CHECKS.due("tokens() after a run that stopped", machine.tokens(), 4);
    }
}

/** Promises 1, 2, 3 and 6: a new object, emit, clear, tokens. */
public final class EmitTest {
    private static final Checks CHECKS = new Checks();
    private static final int MIN = Integer.MIN_VALUE;
    private static final int MAX = Integer.MAX_VALUE;

    public static void main(String[] args) {
        newObject();
        badOps();
        badArguments();
        ignoredArguments();
        stackLow();
        stackHigh();
        notEmpty();
        tooDeep();
        noBlock();
        codeFull();
        orderOfTests();
        refusedCallsChangeNothing();
        clearDropsTokensAlone();
        CHECKS.finish();
    }

    private static FixnumBailout with(int... pairs) {
        FixnumBailout machine = new FixnumBailout();
        Ops.emitAll(machine, pairs);
        return machine;
    }

    private static FixnumBailout withDepth(int depth) {
        FixnumBailout machine = new FixnumBailout();
        for (int i = 0; i < depth; i++) {
            Ops.emitAll(machine, Ops.PUSH, i);
        }
        return machine;
    }

    /** 40 tokens, closed and with an empty stack. */
    private static FixnumBailout full() {
        FixnumBailout machine = new FixnumBailout();
        for (int i = 0; i < 20; i++) {
            Ops.emitAll(machine, Ops.PUSH, i, Ops.STORE, 0);
        }
        return machine;
    }

    private static void emit(FixnumBailout machine, int op, int argument, int want) {
        CHECKS.due("emit(" + op + ", " + argument + ") at " + machine.tokens(), machine.emit(op, argument), want);
    }

    private static void newObject() {
        FixnumBailout machine = new FixnumBailout();
        CHECKS.due("tokens() of a new object", machine.tokens(), 0);
        for (int v = 0; v < 8; v++) {
            CHECKS.due("sign of a new object's " + v, machine.sign(v), 0);
            CHECKS.due("digits of a new object's " + v, machine.digits(v), 1);
            CHECKS.due("asInt of a new object's " + v, machine.asInt(v), 0);
            CHECKS.due("isInt of a new object's " + v, machine.isInt(v), true);
        }
        CHECKS.due("run() of a new object", machine.run(), FixnumBailout.DONE);
        emit(machine, Ops.PUSH, 5, 0);
        emit(machine, Ops.STORE, 7, 1);
        CHECKS.due("tokens() after two", machine.tokens(), 2);
        CHECKS.due("tokens() of another object", new FixnumBailout().tokens(), 0);
    }

    private static void badOps() {
        for (int op : new int[] {-1, 12, 13, MIN, MAX}) {
            emit(new FixnumBailout(), op, 0, FixnumBailout.BAD_OP);
            emit(full(), op, 0, FixnumBailout.BAD_OP);
        }
    }

    private static void badArguments() {
        for (int bad : new int[] {-1, 8, 9, MIN, MAX}) {
            emit(new FixnumBailout(), Ops.LOAD, bad, FixnumBailout.BAD_ARGUMENT);
            emit(withDepth(1), Ops.STORE, bad, FixnumBailout.BAD_ARGUMENT);
        }
        for (int good = 0; good <= 7; good++) {
            emit(new FixnumBailout(), Ops.LOAD, good, 0);
            emit(withDepth(1), Ops.STORE, good, 1);
        }
        for (int bad : new int[] {-1, 0, 7, 8, MIN, MAX}) {
            emit(new FixnumBailout(), Ops.REPEAT, bad, FixnumBailout.BAD_ARGUMENT);
        }
        for (int good = 1; good <= 6; good++) {
            emit(new FixnumBailout(), Ops.REPEAT, good, 0);
        }
    }

    private static void ignoredArguments() {
        for (int any : new int[] {-1, 0, 8, MIN, MAX}) {
            emit(new FixnumBailout(), Ops.PUSH, any, 0);
            for (int op = Ops.ADD; op <= Ops.LESS; op++) {
                emit(withDepth(2), op, any, 2);
            }
            emit(withDepth(1), Ops.IF, any, 1);
            emit(with(Ops.REPEAT, 1), Ops.END, any, 1);
        }
    }

    private static void stackLow() {
        emit(withDepth(0), Ops.STORE, 0, FixnumBailout.STACK_LOW);
        emit(withDepth(0), Ops.IF, 0, FixnumBailout.STACK_LOW);
        for (int op = Ops.ADD; op <= Ops.LESS; op++) {
            emit(withDepth(0), op, 0, FixnumBailout.STACK_LOW);
            emit(withDepth(1), op, 0, FixnumBailout.STACK_LOW);
            emit(withDepth(2), op, 0, 2);
            emit(withDepth(6), op, 0, 6);
            FixnumBailout machine = withDepth(2);
            emit(machine, op, 0, 2);
            emit(machine, op, 0, FixnumBailout.STACK_LOW);
            emit(machine, Ops.STORE, 0, 3);
            emit(machine, Ops.STORE, 0, FixnumBailout.STACK_LOW);
        }
        FixnumBailout afterIf = with(Ops.PUSH, 1, Ops.IF, 0);
        emit(afterIf, Ops.STORE, 0, FixnumBailout.STACK_LOW);
    }

    private static void stackHigh() {
        emit(withDepth(5), Ops.PUSH, 1, 5);
        emit(withDepth(5), Ops.LOAD, 1, 5);
        emit(withDepth(6), Ops.PUSH, 1, FixnumBailout.STACK_HIGH);
        emit(withDepth(6), Ops.LOAD, 1, FixnumBailout.STACK_HIGH);
        FixnumBailout machine = withDepth(6);
        emit(machine, Ops.STORE, 1, 6);
        emit(machine, Ops.LOAD, 1, 7);
        emit(machine, Ops.LOAD, 1, FixnumBailout.STACK_HIGH);
    }

    private static void notEmpty() {
        for (int depth = 2; depth <= 6; depth++) {
            emit(withDepth(depth), Ops.IF, 0, FixnumBailout.NOT_EMPTY);
        }
        for (int depth = 1; depth <= 6; depth++) {
            emit(withDepth(depth), Ops.REPEAT, 1, FixnumBailout.NOT_EMPTY);
            emit(withDepth(depth), Ops.END, 0, FixnumBailout.NOT_EMPTY);
        }
        emit(with(Ops.REPEAT, 2, Ops.PUSH, 1), Ops.END, 0, FixnumBailout.NOT_EMPTY);
    }

    private static void tooDeep() {
        FixnumBailout machine = with(Ops.REPEAT, 1, Ops.PUSH, 1, Ops.IF, 0, Ops.REPEAT, 2);
        emit(machine, Ops.REPEAT, 1, FixnumBailout.TOO_DEEP);
        emit(machine, Ops.PUSH, 1, 4);
        emit(machine, Ops.IF, 0, FixnumBailout.TOO_DEEP);
        emit(machine, Ops.STORE, 0, 5);
        emit(machine, Ops.END, 0, 6);
        emit(machine, Ops.REPEAT, 6, 7);
        emit(machine, Ops.REPEAT, 6, FixnumBailout.TOO_DEEP);
        emit(machine, Ops.END, 0, 8);
        emit(machine, Ops.END, 0, 9);
        emit(machine, Ops.END, 0, 10);
        emit(machine, Ops.END, 0, FixnumBailout.NO_BLOCK);
    }

    private static void noBlock() {
        emit(new FixnumBailout(), Ops.END, 0, FixnumBailout.NO_BLOCK);
        FixnumBailout machine = with(Ops.REPEAT, 1, Ops.END, 0);
        emit(machine, Ops.END, 0, FixnumBailout.NO_BLOCK);
        machine.clear();
        Ops.emitAll(machine, Ops.PUSH, 0, Ops.IF, 0, Ops.END, 0);
        emit(machine, Ops.END, 0, FixnumBailout.NO_BLOCK);
    }

    private static void codeFull() {
        FixnumBailout machine = full();
        CHECKS.due("tokens() when full", machine.tokens(), 40);
        for (int op = 0; op <= 11; op++) {
            emit(machine, op, 1, FixnumBailout.CODE_FULL);
        }
        CHECKS.due("tokens() when still full", machine.tokens(), 40);
        CHECKS.due("run() when full", machine.run(), FixnumBailout.DONE);
        CHECKS.due("asInt(0) after it", machine.asInt(0), 19);

        FixnumBailout open = with(Ops.REPEAT, 1);
        for (int i = 1; i < 39; i += 2) {
            Ops.emitAll(open, Ops.PUSH, i, Ops.STORE, 0);
        }
        emit(open, Ops.PUSH, 1, 39);
        emit(open, Ops.STORE, 0, FixnumBailout.CODE_FULL);
        CHECKS.due("run() of a full program that is open", open.run(), FixnumBailout.UNFINISHED);
    }

    private static void orderOfTests() {
        FixnumBailout machine = full();
        emit(machine, Ops.LOAD, 8, FixnumBailout.CODE_FULL);
        emit(machine, Ops.REPEAT, 0, FixnumBailout.CODE_FULL);
        emit(new FixnumBailout(), Ops.STORE, 8, FixnumBailout.BAD_ARGUMENT);
        emit(withDepth(6), Ops.LOAD, 8, FixnumBailout.BAD_ARGUMENT);
        emit(withDepth(1), Ops.REPEAT, 7, FixnumBailout.BAD_ARGUMENT);
        FixnumBailout deep = with(Ops.REPEAT, 1, Ops.REPEAT, 1, Ops.REPEAT, 1);
        emit(deep, Ops.REPEAT, 7, FixnumBailout.BAD_ARGUMENT);
        emit(deep, Ops.IF, 0, FixnumBailout.STACK_LOW);
        Ops.emitAll(deep, Ops.PUSH, 1);
        emit(deep, Ops.REPEAT, 1, FixnumBailout.NOT_EMPTY);
        Ops.emitAll(deep, Ops.PUSH, 1);
        emit(deep, Ops.IF, 0, FixnumBailout.NOT_EMPTY);
        emit(withDepth(1), Ops.END, 0, FixnumBailout.NOT_EMPTY);
    }

    private static void refusedCallsChangeNothing() {
        FixnumBailout machine = new FixnumBailout();
        emit(machine, Ops.END, 0, FixnumBailout.NO_BLOCK);
        emit(machine, Ops.STORE, 0, FixnumBailout.STACK_LOW);
        emit(machine, Ops.REPEAT, 7, FixnumBailout.BAD_ARGUMENT);
        emit(machine, 12, 7, FixnumBailout.BAD_OP);
        CHECKS.due("tokens() after refusals", machine.tokens(), 0);
        CHECKS.due("run() after refusals", machine.run(), FixnumBailout.DONE);
        emit(machine, Ops.PUSH, 7, 0);
        emit(machine, Ops.ADD, 0, FixnumBailout.STACK_LOW);
        emit(machine, Ops.REPEAT, 1, FixnumBailout.NOT_EMPTY);
        emit(machine, Ops.END, 1, FixnumBailout.NOT_EMPTY);
        emit(machine, Ops.STORE, 3, 1);
        CHECKS.due("run() after more refusals", machine.run(), FixnumBailout.DONE);
        CHECKS.due("asInt(3)", machine.asInt(3), 7);
    }

    private static void clearDropsTokensAlone() {
        FixnumBailout machine = with(Ops.PUSH, 4, Ops.STORE, 2);
        machine.run();
        machine.set(5, -6);
        machine.clear();
        CHECKS.due("tokens() after clear", machine.tokens(), 0);
        CHECKS.due("asInt(2) after clear", machine.asInt(2), 4);
        CHECKS.due("asInt(5) after clear", machine.asInt(5), -6);
        machine.set(2, 1);
        CHECKS.due("run() after clear", machine.run(), FixnumBailout.DONE);
        CHECKS.due("asInt(2) after it", machine.asInt(2), 1);

        FixnumBailout unfinished = with(Ops.REPEAT, 2, Ops.PUSH, 1, Ops.PUSH, 1);
        unfinished.clear();
        emit(unfinished, Ops.STORE, 0, FixnumBailout.STACK_LOW);
        emit(unfinished, Ops.END, 0, FixnumBailout.NO_BLOCK);
        CHECKS.due("run() after clear of an open program", unfinished.run(), FixnumBailout.DONE);
        emit(unfinished, Ops.REPEAT, 1, 0);
        emit(unfinished, Ops.REPEAT, 1, 1);
        emit(unfinished, Ops.REPEAT, 1, 2);
    }
}

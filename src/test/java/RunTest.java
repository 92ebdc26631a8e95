import java.math.BigInteger;

/** Promise 5, sentence by sentence: run. */
public final class RunTest {
    private static final Checks CHECKS = new Checks();
    private static final int[] DIVIDE_BY_ZERO = Programs.of(Ops.PUSH, 1, Ops.PUSH, 0, Ops.DIV, 0, Ops.STORE, 7);
    private static final int[] MOD_BY_ZERO = Programs.of(Ops.PUSH, 1, Ops.PUSH, 0, Ops.MOD, 0, Ops.STORE, 7);
    private static final int[] GROW_TOO_BIG = Programs.of(Ops.LOAD, 2, Ops.PUSH, 1, Ops.ADD, 0, Ops.STORE, 7);

    public static void main(String[] args) {
        CHECKS.sentence("Promise 5: Carries the program out from its first token", RunTest::fromItsFirstToken);
        CHECKS.sentence("Promise 5: on the variables as they are", RunTest::onTheVariablesAsTheyAre);
        CHECKS.sentence("Promise 5: The depth is not 0: UNFINISHED, nothing changes.", RunTest::depthNotZero);
        CHECKS.sentence("Promise 5: or a block is open: UNFINISHED, nothing changes.", RunTest::blockOpen);
        CHECKS.sentence("Promise 5: The depth is not 0 and a block is open: UNFINISHED, nothing changes.",
            RunTest::unfinishedBothWays);
        CHECKS.sentence("Promise 5: a program that was UNFINISHED is carried out once it is finished",
            RunTest::unfinishedThenFinished);
        CHECKS.sentence("Promise 5: Else DONE after the last token", RunTest::doneAfterTheLastToken);
        CHECKS.sentence("Promise 5: or ZERO_DIVIDE or TOO_BIG if it stopped", RunTest::stopped);
        CHECKS.sentence("Promise 5: a run stops in the round of a REPEAT in which it must, not sooner and not later",
            RunTest::stoppedInARound);
        CHECKS.sentence("Promise 5: a run stops with TOO_BIG by the first result that is, and no other",
            RunTest::grownTooBigInARound);
        CHECKS.sentence("Promise 5: what was stored before stays.", RunTest::whatWasStoredStays);
        CHECKS.sentence("Promise 5: after a stop the program is as it was, and the next run begins with an empty stack",
            RunTest::afterAStop);
        CHECKS.sentence("Promise 5: An empty program is DONE.", RunTest::emptyProgram);
        CHECKS.finish();
    }

    private static void fromItsFirstToken() {
        FixnumBailout machine = Machines.with(Programs.count(0));
        for (int run = 1; run <= 10; run++) {
            CHECKS.due("run() number " + run, machine.run(), FixnumBailout.DONE);
            CHECKS.due("asInt(0) after run " + run, machine.asInt(0), run);
        }
        Ops.emitAll(machine, Programs.count(1));
        CHECKS.due("run() of more tokens", machine.run(), FixnumBailout.DONE);
        CHECKS.due("asInt(0), by the first token on", machine.asInt(0), 11);
        CHECKS.due("asInt(1), by what was added", machine.asInt(1), 1);
        machine.clear();
        Ops.emitAll(machine, Programs.count(2));
        CHECKS.due("run() of another program", machine.run(), FixnumBailout.DONE);
        CHECKS.due("asInt(0), by the dropped program", machine.asInt(0), 11);
        CHECKS.due("asInt(2), by the new program", machine.asInt(2), 1);
    }

    private static void onTheVariablesAsTheyAre() {
        FixnumBailout machine = Machines.with(Ops.LOAD, 0, Ops.LOAD, 7, Ops.SUB, 0, Ops.STORE, 7);
        long seven = 0;
        for (int zero : new int[] {5, -5, Integer.MAX_VALUE, 0, 12}) {
            machine.set(0, zero);
            seven = zero - seven;
            CHECKS.due("run()", machine.run(), FixnumBailout.DONE);
            CHECKS.due("variable 7", Ops.read(machine, 7), BigInteger.valueOf(seven));
            CHECKS.due("asInt(0)", machine.asInt(0), zero);
        }
    }

    private static void unfinished(int[] program) {
        String of = "run() of " + program.length / 2 + " tokens";
        CHECKS.due(of, Machines.filled(program).run(), FixnumBailout.UNFINISHED);
        CHECKS.due("the change by " + of,
            Alike.changeBy(() -> Machines.filled(program), FixnumBailout::run), Alike.NO_DIFFERENCE);
    }

    private static void depthNotZero() {
        int[] storing = Programs.telling();
        for (int depth = 1; depth <= 6; depth++) {
            unfinished(Programs.pushes(depth));
            unfinished(Programs.join(storing, Programs.pushes(depth)));
            unfinished(Programs.join(DIVIDE_BY_ZERO, Programs.pushes(depth)));
            unfinished(Programs.join(GROW_TOO_BIG, Programs.pushes(depth)));
        }
        unfinished(Programs.join(Programs.closed(39), Programs.pushes(1)));
        CHECKS.due("run() at depth 0", Machines.filled(storing).run(), FixnumBailout.DONE);
        int[] emptied = Programs.join(Programs.pushes(2), Programs.of(Ops.ADD, 0, Ops.STORE, 0));
        CHECKS.due("run() at depth 0 again", Machines.filled(emptied).run(), FixnumBailout.DONE);
    }

    private static void blockOpen() {
        int[] ahead = Programs.telling();
        int[] inside = Programs.count(6);
        for (int bits = 0; bits < 8; bits++) {
            for (int open = 1; open <= 3; open++) {
                int[] blocks = Programs.blocks(open, bits);
                unfinished(blocks);
                unfinished(Programs.join(ahead, blocks));
                unfinished(Programs.join(blocks, inside));
                unfinished(Programs.join(blocks, Programs.ends(open - 1)));
                unfinished(Programs.join(blocks, inside, Programs.ends(open - 1)));
                int[] closed = Programs.join(blocks, inside, Programs.ends(open));
                CHECKS.due("run() with no block open", Machines.filled(closed).run(), FixnumBailout.DONE);
            }
        }
        unfinished(Programs.join(Programs.closed(39), Programs.repeats(1)));
    }

    private static void unfinishedBothWays() {
        for (int open = 1; open <= 3; open++) {
            for (int depth = 1; depth <= 6; depth++) {
                unfinished(Programs.join(Programs.telling(), Programs.blocks(open, 2), Programs.pushes(depth)));
            }
        }
    }

    private static void unfinishedThenFinished() {
        FixnumBailout machine = Machines.with(Ops.REPEAT, 2, Ops.LOAD, 0, Ops.PUSH, 5);
        CHECKS.due("run() with depth 2", machine.run(), FixnumBailout.UNFINISHED);
        Ops.emitAll(machine, Ops.ADD, 0);
        CHECKS.due("run() with depth 1", machine.run(), FixnumBailout.UNFINISHED);
        Ops.emitAll(machine, Ops.STORE, 0);
        CHECKS.due("run() with an open block", machine.run(), FixnumBailout.UNFINISHED);
        Ops.emitAll(machine, Ops.END, 0);
        CHECKS.due("run() when finished", machine.run(), FixnumBailout.DONE);
        CHECKS.due("asInt(0) after it", machine.asInt(0), 10);
    }

    private static void doneAfterTheLastToken() {
        for (int tokens = 2; tokens <= 40; tokens++) {
            FixnumBailout machine = Machines.with(Programs.closed(tokens));
            CHECKS.due("run() of " + tokens + " tokens", machine.run(), FixnumBailout.DONE);
            int last = tokens - 2;
            int want = tokens == 3 ? 0 : 100 + last;
            CHECKS.due("what the last of " + tokens + " tokens stored", machine.asInt(last / 2 % 8), want);
        }
        int[] storingTheSame = Programs.of(Ops.REPEAT, 2, Ops.LOAD, 2, Ops.STORE, 2, Ops.END, 0);
        CHECKS.due("what a run changes but for the variables",
            Alike.changeBy(() -> Machines.filled(storingTheSame), FixnumBailout::run), Alike.NO_DIFFERENCE);
    }

    private static void stopped() {
        int[][] programs = {DIVIDE_BY_ZERO, MOD_BY_ZERO, GROW_TOO_BIG};
        int[] outcomes = {FixnumBailout.ZERO_DIVIDE, FixnumBailout.ZERO_DIVIDE, FixnumBailout.TOO_BIG};
        for (int i = 0; i < programs.length; i++) {
            int[] stopping = programs[i];
            CHECKS.due("run() that stops at its start", Machines.filled(stopping).run(), outcomes[i]);
            CHECKS.due("run() that stops, with more behind",
                Machines.filled(Programs.join(stopping, Programs.closed(36))).run(), outcomes[i]);
            CHECKS.due("run() that stops at its end",
                Machines.filled(Programs.join(Programs.of(Ops.LOAD, 1, Ops.STORE, 0), stopping)).run(), outcomes[i]);
            CHECKS.due("run() that stops in an IF", Machines.filled(
                Programs.join(Programs.of(Ops.LOAD, 1, Ops.IF, 0), stopping, Programs.ends(1))).run(), outcomes[i]);
            CHECKS.due("run() that does not come there", Machines.filled(
                Programs.join(Programs.of(Ops.LOAD, 3, Ops.IF, 0), stopping, Programs.ends(1))).run(), FixnumBailout.DONE);
            for (int[] second : programs) {
                int[] both = Programs.join(stopping, second);
                CHECKS.due("run() that would stop twice", Machines.filled(both).run(), outcomes[i]);
            }
        }
    }

    /** Tokens that take 1 from variable 0, then divide 60 by it. */
    private static int[] divideByOneLess() {
        return Programs.of(Ops.LOAD, 0, Ops.PUSH, 1, Ops.SUB, 0, Ops.STORE, 0,
            Ops.PUSH, 60, Ops.LOAD, 0, Ops.DIV, 0, Ops.STORE, 2);
    }

    private static void stoppedInARound() {
        for (int last = 1; last <= 6; last++) {
            FixnumBailout machine = new FixnumBailout();
            machine.set(0, last);
            Ops.emitAll(machine, Programs.join(Programs.of(Ops.REPEAT, 6), Programs.count(1), divideByOneLess(),
                Programs.count(3), Programs.ends(1), Programs.count(4)));
            CHECKS.due("run() that divides by 0 in round " + last, machine.run(), FixnumBailout.ZERO_DIVIDE);
            CHECKS.due("rounds begun", machine.asInt(1), last);
            CHECKS.due("rounds ended", machine.asInt(3), last - 1);
            CHECKS.due("behind the rounds", machine.asInt(4), 0);
        }
        FixnumBailout machine = new FixnumBailout();
        machine.set(0, 7);
        Ops.emitAll(machine, Programs.join(Programs.of(Ops.REPEAT, 6), divideByOneLess(), Programs.ends(1)));
        CHECKS.due("run() whose divisor ends at 1", machine.run(), FixnumBailout.DONE);
        CHECKS.due("its last quotient", machine.asInt(2), 60);
    }

    private static void grownTooBigInARound() {
        FixnumBailout squares = Machines.with(Ops.REPEAT, 6, Ops.LOAD, 0, Ops.LOAD, 0, Ops.MUL, 0, Ops.STORE, 0, Ops.END, 0);
        squares.set(0, -10);
        CHECKS.due("run() that grows too big in round 6", squares.run(), FixnumBailout.TOO_BIG);
        CHECKS.due("the last power that was stored", Ops.read(squares, 0), Numbers.power(32));
        squares.set(0, 4);
        CHECKS.due("run() that stays small enough", squares.run(), FixnumBailout.DONE);
        CHECKS.due("4 to the 64th", Ops.read(squares, 0), Numbers.powerOfTwo(128));
        CHECKS.due("run() of one more", squares.run(), FixnumBailout.TOO_BIG);
        CHECKS.due("4 to the 64th again", Ops.read(squares, 0), Numbers.powerOfTwo(128));
    }

    private static void whatWasStoredStays() {
        for (int[] stopping : new int[][] {DIVIDE_BY_ZERO, MOD_BY_ZERO, GROW_TOO_BIG}) {
            FixnumBailout machine = Machines.filled(Programs.join(
                Programs.of(Ops.PUSH, 5, Ops.STORE, 0, Ops.LOAD, 2, Ops.STORE, 1, Ops.PUSH, 8), stopping,
                Programs.of(Ops.STORE, 3, Ops.PUSH, 6, Ops.STORE, 4)));
            machine.run();
            CHECKS.due("asInt(0), stored before", machine.asInt(0), 5);
            CHECKS.due("variable 1, stored before", Ops.read(machine, 1), Numbers.LARGEST);
            CHECKS.due("variable 2, not stored", Ops.read(machine, 2), Numbers.LARGEST);
            CHECKS.due("asInt(3), for what was still on the stack", machine.asInt(3), 0);
            CHECKS.due("asInt(4), to be stored later", machine.asInt(4), Integer.MIN_VALUE);
            CHECKS.due("asInt(6), not stored", machine.asInt(6), 10);
            CHECKS.due("asInt(7), for the result", machine.asInt(7), 100000000);
        }
    }

    private static void afterAStop() {
        for (int[] stopping : new int[][] {DIVIDE_BY_ZERO, MOD_BY_ZERO, GROW_TOO_BIG}) {
            int[] program = Programs.join(Programs.pushes(4), stopping,
                Programs.of(Ops.STORE, 3, Ops.STORE, 3, Ops.STORE, 3, Ops.STORE, 3));
            CHECKS.due("the change by a run that stopped before any STORE",
                Alike.changeBy(() -> Machines.filled(program), FixnumBailout::run), Alike.NO_DIFFERENCE);
        }
        FixnumBailout machine = Machines.with(Programs.join(Programs.pushes(4),
            Programs.of(Ops.PUSH, 60, Ops.LOAD, 0, Ops.DIV, 0, Ops.STORE, 1),
            Programs.of(Ops.STORE, 2, Ops.STORE, 3, Ops.STORE, 4, Ops.STORE, 5)));
        for (int round = 0; round < 20; round++) {
            CHECKS.due("run() that divides by 0", machine.run(), FixnumBailout.ZERO_DIVIDE);
        }
        machine.set(0, -7);
        CHECKS.due("run() that divides by -7", machine.run(), FixnumBailout.DONE);
        CHECKS.due("its quotient", machine.asInt(1), -8);
        CHECKS.due("the third number of the stack", machine.asInt(3), 52);
        CHECKS.due("the first number of the stack", machine.asInt(5), 50);
    }

    private static void emptyProgram() {
        CHECKS.due("run() of a new object", new FixnumBailout().run(), FixnumBailout.DONE);
        CHECKS.due("run() without tokens", Machines.filled().run(), FixnumBailout.DONE);
        CHECKS.due("the change by it", Alike.changeBy(Machines::filled, FixnumBailout::run), Alike.NO_DIFFERENCE);
        int[][] dropped = {Programs.pushes(1), Programs.repeats(3), DIVIDE_BY_ZERO, Programs.closed(40)};
        for (int[] program : dropped) {
            FixnumBailout machine = Machines.filled(program);
            machine.run();
            machine.clear();
            CHECKS.due("run() after clear()", machine.run(), FixnumBailout.DONE);
        }
    }
}

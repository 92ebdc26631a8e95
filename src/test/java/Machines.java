/** Machines for the tests to begin with: each call makes a new one. */
final class Machines {
    private Machines() {
    }

    static FixnumBailout with(int... pairs) {
        FixnumBailout machine = new FixnumBailout();
        Ops.emitAll(machine, pairs);
        return machine;
    }

    /** Eight different numbers of both signs and of 1 to 40 digits in the variables, then the given tokens. */
    static FixnumBailout filled(int... pairs) {
        FixnumBailout machine = new FixnumBailout();
        Ops.put(machine, 2, Numbers.LARGEST);
        Ops.runAlone(machine, Ops.PUSH, 12345, Ops.LOAD, 2, Ops.SUB, 0, Ops.STORE, 5);
        machine.clear();
        machine.set(0, Integer.MAX_VALUE);
        machine.set(1, -3);
        machine.set(4, Integer.MIN_VALUE);
        machine.set(6, 10);
        machine.set(7, 100000000);
        Ops.emitAll(machine, pairs);
        return machine;
    }

    /** How many numbers the stack holds at the program's end, told by how many STOREs are taken. */
    static int depthOf(FixnumBailout machine) {
        int depth = 0;
        while (depth < 7 && machine.emit(Ops.STORE, 0) >= 0) {
            depth++;
        }
        return depth;
    }
}

import java.util.Arrays;

/** Parts of programs, as pairs of operation and argument. */
final class Programs {
    private Programs() {
    }

    static int[] of(int... pairs) {
        return pairs;
    }

    static int[] join(int[]... parts) {
        int[] all = {};
        for (int[] part : parts) {
            int[] longer = Arrays.copyOf(all, all.length + part.length);
            System.arraycopy(part, 0, longer, all.length, part.length);
            all = longer;
        }
        return all;
    }

    /** Tokens that leave so many numbers on the stack. */
    static int[] pushes(int depth) {
        int[] all = {};
        for (int i = 0; i < depth; i++) {
            all = join(all, i % 2 == 0 ? of(Ops.PUSH, 50 + i) : of(Ops.LOAD, i));
        }
        return all;
    }

    static int[] repeats(int open) {
        return blocks(open, 0);
    }

    /** Opens a block by IF for each set bit among the lowest ones, by REPEAT for the others. */
    static int[] blocks(int open, int bits) {
        int[] all = {};
        for (int i = 0; i < open; i++) {
            all = join(all, (bits >> i & 1) != 0 ? of(Ops.PUSH, 1, Ops.IF, 0) : of(Ops.REPEAT, 2));
        }
        return all;
    }

    static int[] ends(int closed) {
        int[] all = {};
        for (int i = 0; i < closed; i++) {
            all = join(all, of(Ops.END, 0));
        }
        return all;
    }

    /** So many tokens (not 1) with the stack empty and no block open at their end, the last of them a STORE but for 3. */
    static int[] closed(int tokens) {
        int[] all = tokens % 2 == 0 ? of() : of(Ops.PUSH, 0, Ops.IF, 0, Ops.END, 0);
        while (all.length < 2 * tokens) {
            int i = all.length / 2;
            all = join(all, of(Ops.PUSH, 100 + i, Ops.STORE, i / 2 % 8));
        }
        return all;
    }

    /** Ten closed tokens of which none could be another without a run's showing it, in the variables 6 and 7. */
    static int[] telling() {
        return of(Ops.LOAD, 6, Ops.PUSH, 7, Ops.SUB, 0, Ops.STORE, 6,
            Ops.REPEAT, 3, Ops.LOAD, 7, Ops.PUSH, 2, Ops.MUL, 0, Ops.STORE, 7, Ops.END, 0);
    }

    /** Tokens that add 1 to a variable. */
    static int[] count(int variable) {
        return of(Ops.LOAD, variable, Ops.PUSH, 1, Ops.ADD, 0, Ops.STORE, variable);
    }
}

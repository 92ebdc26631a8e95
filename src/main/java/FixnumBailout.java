/** A machine for whole numbers without a fixed width. */
public final class FixnumBailout {
    public static final int BAD_OP = -1;
    public static final int BAD_ARGUMENT = -2;
    public static final int CODE_FULL = -3;
    public static final int STACK_LOW = -4;
    public static final int STACK_HIGH = -5;
    public static final int NOT_EMPTY = -6;
    public static final int TOO_DEEP = -7;
    public static final int NO_BLOCK = -8;
    public static final int UNFINISHED = -9;
    public static final int DONE = 0;
    public static final int ZERO_DIVIDE = 1;
    public static final int TOO_BIG = 2;

    private static final int PUSH = 0;
    private static final int LOAD = 1;
    private static final int STORE = 2;
    private static final int ADD = 3;
    private static final int SUB = 4;
    private static final int MUL = 5;
    private static final int DIV = 6;
    private static final int MOD = 7;
    private static final int LESS = 8;
    private static final int IF = 9;
    private static final int REPEAT = 10;
    private static final int END = 11;

    private static final int VARIABLES = 8;
    private static final int MAX_TOKENS = 40;
    private static final int MAX_DEPTH = 6;
    private static final int MAX_OPEN = 3;
    private static final int MAX_ROUNDS = 6;

    // A token stands in at most three blocks of at most six rounds each, so no run has more steps.
    private static final int MAX_STEPS = MAX_TOKENS * MAX_ROUNDS * MAX_ROUNDS * MAX_ROUNDS;

    private static final int MIN_INT = 0x80000000;
    private static final int MAX_INT = 0x7fffffff;

    // Five limbs of eight digits are the 40 digits allowed: a result is too big just if a sixth limb is not 0.
    private static final int LIMBS = 5;
    private static final int LIMB_DIGITS = 8;
    private static final int MAX_DIGITS = LIMBS * LIMB_DIGITS;
    private static final long BASE = 100000000L;
    private static final int PRODUCT_LIMBS = 2 * LIMBS;

    // A multiple of a divisor may need one limb more than a number; the remainder is as long, to be compared with it.
    private static final int LONG_LIMBS = LIMBS + 1;

    // BASE is below 2 to the 27th, so the bits 26 to 0 make up any limb of a quotient.
    private static final int TOP_BIT = 26;

    // Variables and stack share one row of slots, so that every operation works on slots alone.
    private static final int STACK = VARIABLES;
    private static final int SLOTS = VARIABLES + MAX_DEPTH;
    private static final int ALL_LIMBS = SLOTS * LIMBS;

    // Slot s has its absolute value in LIMBS limbs from s * LIMBS on, the lowest first; its sign is 0 just for the number 0.
    private final long[] limbs = new long[ALL_LIMBS];
    private final int[] signs = new int[SLOTS];

    private final int[] ops = new int[MAX_TOKENS];
    private final int[] arguments = new int[MAX_TOKENS];
    private int tokenCount = 0;
    private int depth = 0;

    // For a closed block, partners leads from its IF or REPEAT to its END and back.
    private final int[] partners = new int[MAX_TOKENS];
    private final int[] openBlocks = new int[MAX_OPEN];
    private int openCount = 0;

    // What follows is made anew by each run, product or division; it is kept here as a method makes no array.
    private final int[] roundsLeft = new int[MAX_TOKENS];
    private int height = 0;
    private final long[] product = new long[PRODUCT_LIMBS];
    private final long[] quotient = new long[LIMBS];
    private final long[] remainder = new long[LONG_LIMBS];
    private final long[] multiple = new long[LONG_LIMBS];

    public FixnumBailout() {
    }

    public int emit(int op, int argument) {
        int refusal = refusalOf(op, argument);
        if (refusal < 0) {
            return refusal;
        }
        int index = tokenCount;
        ops[index] = op;
        arguments[index] = argument;
        tokenCount++;
        depth += depthChange(op);
        if (opensBlock(op)) {
            openBlocks[openCount] = index;
            openCount++;
        }
        if (op == END) {
            closeBlock(index);
        }
        return index;
    }

    public void clear() {
        tokenCount = 0;
        depth = 0;
        openCount = 0;
    }

    public int set(int variable, int value) {
        if (!isVariable(variable)) {
            return BAD_ARGUMENT;
        }
        writeInt(variable, value);
        return 0;
    }

    public int run() {
        if (depth != 0 || openCount != 0) {
            return UNFINISHED;
        }
        height = 0;
        int at = 0;
        int outcome = DONE;
        for (int step = 0; step < MAX_STEPS && at < tokenCount && outcome == DONE; step++) {
            if (ops[at] >= IF) {
                at = nextAfterBlockToken(at);
            } else {
                outcome = carryOut(ops[at], arguments[at]);
                at++;
            }
        }
        return outcome;
    }

    public int tokens() {
        return tokenCount;
    }

    public int sign(int variable) {
        return isVariable(variable) ? signs[variable] : BAD_ARGUMENT;
    }

    public int digits(int variable) {
        if (!isVariable(variable)) {
            return BAD_ARGUMENT;
        }
        for (int i = MAX_DIGITS - 1; i > 0; i--) {
            if (decimalDigit(variable, i) != 0) {
                return i + 1;
            }
        }
        return 1;
    }

    public int digit(int variable, int i) {
        if (!isVariable(variable) || i < 0) {
            return BAD_ARGUMENT;
        }
        return i < MAX_DIGITS ? decimalDigit(variable, i) : 0;
    }

    public int compare(int a, int b) {
        if (!isVariable(a) || !isVariable(b)) {
            return BAD_ARGUMENT;
        }
        return compareNumbers(a, b);
    }

    public boolean isInt(int variable) {
        if (!isVariable(variable)) {
            return false;
        }
        for (int i = 2; i < LIMBS; i++) {
            if (limbs[variable * LIMBS + i] != 0) {
                return false;
            }
        }
        long value = lowValue(variable);
        return value >= MIN_INT && value <= MAX_INT;
    }

    public int asInt(int variable) {
        return isInt(variable) ? (int) lowValue(variable) : 0;
    }

    private int refusalOf(int op, int argument) {
        if (op < PUSH || op > END) {
            return BAD_OP;
        }
        if (tokenCount >= MAX_TOKENS) {
            return CODE_FULL;
        }
        if (!isGoodArgument(op, argument)) {
            return BAD_ARGUMENT;
        }
        if (depth < popsOf(op)) {
            return STACK_LOW;
        }
        if (op <= LOAD && depth >= MAX_DEPTH) {
            return STACK_HIGH;
        }
        // A block token must leave the stack empty, and what it pops is already there.
        if (op >= IF && depth != popsOf(op)) {
            return NOT_EMPTY;
        }
        if (opensBlock(op) && openCount >= MAX_OPEN) {
            return TOO_DEEP;
        }
        if (op == END && openCount <= 0) {
            return NO_BLOCK;
        }
        return 0;
    }

    private static boolean isGoodArgument(int op, int argument) {
        if (op == LOAD || op == STORE) {
            return isVariable(argument);
        }
        return op != REPEAT || argument >= 1 && argument <= MAX_ROUNDS;
    }

    private static boolean isVariable(int variable) {
        return variable >= 0 && variable < VARIABLES;
    }

    private static boolean opensBlock(int op) {
        return op == IF || op == REPEAT;
    }

    private static int popsOf(int op) {
        if (op >= ADD && op <= LESS) {
            return 2;
        }
        return op == STORE || op == IF ? 1 : 0;
    }

    private static int depthChange(int op) {
        if (op <= LOAD) {
            return 1;
        }
        return op <= IF ? -1 : 0;
    }

    private void closeBlock(int end) {
        openCount--;
        int start = openBlocks[openCount];
        partners[start] = end;
        partners[end] = start;
    }

    /** Carries out the IF, REPEAT or END at an index; answers the index to go on with. */
    private int nextAfterBlockToken(int at) {
        int other = partners[at];
        if (ops[at] == IF) {
            height--;
            return signs[STACK + height] == 0 ? other + 1 : at + 1;
        }
        if (ops[at] == REPEAT) {
            roundsLeft[at] = arguments[at];
            return at + 1;
        }
        if (ops[other] == REPEAT) {
            roundsLeft[other]--;
            return roundsLeft[other] > 0 ? other + 1 : at + 1;
        }
        return at + 1;
    }

    /** Carries out any other token; emit has seen to it that the stack holds all it pops and has room for all it pushes. */
    private int carryOut(int op, int argument) {
        if (op == PUSH) {
            writeInt(STACK + height, argument);
            height++;
            return DONE;
        }
        if (op == LOAD) {
            copyNumber(argument, STACK + height);
            height++;
            return DONE;
        }
        height--;
        int top = STACK + height;
        if (op == STORE) {
            copyNumber(top, argument);
            return DONE;
        }
        return calculate(op, top - 1, top);
    }

    /** Puts the result for the numbers in the slots x and y into slot x; slot y may be spoilt. */
    private int calculate(int op, int x, int y) {
        switch (op) {
            case ADD:
                return add(x, y);
            case SUB:
                signs[y] = -signs[y];
                return add(x, y);
            case MUL:
                return multiply(x, y);
            case DIV:
            case MOD:
                return divide(op, x, y);
            default:
                int order = compareNumbers(x, y);
                writeInt(x, order < 0 ? 1 : 0);
                return DONE;
        }
    }

    private int add(int x, int y) {
        if (signs[x] == signs[y]) {
            return addMagnitudes(x, y);
        }
        int order = compareMagnitudes(x, y);
        if (order >= 0) {
            subtractMagnitudes(x, y, x);
        } else {
            subtractMagnitudes(y, x, x);
            signs[x] = signs[y];
        }
        if (order == 0) {
            signs[x] = 0;
        }
        return DONE;
    }

    private int addMagnitudes(int x, int y) {
        long carry = 0;
        for (int i = 0; i < LIMBS; i++) {
            long sum = limbs[x * LIMBS + i] + limbs[y * LIMBS + i] + carry;
            limbs[x * LIMBS + i] = sum % BASE;
            carry = sum / BASE;
        }
        return carry == 0 ? DONE : TOO_BIG;
    }

    private void subtractMagnitudes(int greater, int lesser, int result) {
        long borrow = 0;
        for (int i = 0; i < LIMBS; i++) {
            long difference = limbs[greater * LIMBS + i] - limbs[lesser * LIMBS + i] - borrow;
            borrow = difference < 0 ? 1 : 0;
            limbs[result * LIMBS + i] = difference + borrow * BASE;
        }
    }

    private int multiply(int x, int y) {
        for (int i = 0; i < PRODUCT_LIMBS; i++) {
            product[i] = 0;
        }
        for (int i = 0; i < LIMBS; i++) {
            addToProduct(limbs[x * LIMBS + i], y, i);
        }
        for (int i = LIMBS; i < PRODUCT_LIMBS; i++) {
            if (product[i] != 0) {
                return TOO_BIG;
            }
        }
        writeNumber(x, product, signs[x] * signs[y]);
        return DONE;
    }

    private void addToProduct(long limb, int y, int shift) {
        long carry = 0;
        for (int i = 0; i < LIMBS; i++) {
            long sum = product[shift + i] + limb * limbs[y * LIMBS + i] + carry;
            product[shift + i] = sum % BASE;
            carry = sum / BASE;
        }
        product[shift + LIMBS] = carry;
    }

    private int divide(int op, int x, int y) {
        if (signs[y] == 0) {
            return ZERO_DIVIDE;
        }
        for (int i = 0; i < LONG_LIMBS; i++) {
            remainder[i] = 0;
        }
        for (int i = LIMBS - 1; i >= 0; i--) {
            bringDown(limbs[x * LIMBS + i]);
            quotient[i] = takeOutMultiples(y);
        }
        if (op == DIV) {
            writeNumber(x, quotient, signs[x] * signs[y]);
        } else {
            writeNumber(x, remainder, signs[x]);
        }
        return DONE;
    }

    private void bringDown(long limb) {
        for (int i = LONG_LIMBS - 1; i > 0; i--) {
            remainder[i] = remainder[i - 1];
        }
        remainder[0] = limb;
    }

    /** Takes slot y's absolute value out of the remainder as often as it goes in; answers how often that is. */
    private long takeOutMultiples(int y) {
        long times = 0;
        for (int bit = TOP_BIT; bit >= 0; bit--) {
            long part = 1L << bit;
            makeMultiple(y, part);
            if (multipleGoesIn()) {
                takeOutMultiple();
                times += part;
            }
        }
        return times;
    }

    private void makeMultiple(int y, long times) {
        long carry = 0;
        for (int i = 0; i < LIMBS; i++) {
            long sum = limbs[y * LIMBS + i] * times + carry;
            multiple[i] = sum % BASE;
            carry = sum / BASE;
        }
        multiple[LIMBS] = carry;
    }

    private boolean multipleGoesIn() {
        for (int i = LONG_LIMBS - 1; i >= 0; i--) {
            if (multiple[i] != remainder[i]) {
                return multiple[i] < remainder[i];
            }
        }
        return true;
    }

    private void takeOutMultiple() {
        long borrow = 0;
        for (int i = 0; i < LONG_LIMBS; i++) {
            long difference = remainder[i] - multiple[i] - borrow;
            borrow = difference < 0 ? 1 : 0;
            remainder[i] = difference + borrow * BASE;
        }
    }

    private int compareNumbers(int x, int y) {
        if (signs[x] != signs[y]) {
            return signs[x] < signs[y] ? -1 : 1;
        }
        int order = compareMagnitudes(x, y);
        return signs[x] * order;
    }

    private int compareMagnitudes(int x, int y) {
        for (int i = LIMBS - 1; i >= 0; i--) {
            long ofX = limbs[x * LIMBS + i];
            long ofY = limbs[y * LIMBS + i];
            if (ofX != ofY) {
                return ofX < ofY ? -1 : 1;
            }
        }
        return 0;
    }

    private void copyNumber(int from, int to) {
        for (int i = 0; i < LIMBS; i++) {
            limbs[to * LIMBS + i] = limbs[from * LIMBS + i];
        }
        signs[to] = signs[from];
    }

    /** Writes the lowest limbs of an array into a slot, with the sign that the number has if it is not 0. */
    private void writeNumber(int slot, long[] from, int signIfNotZero) {
        signs[slot] = 0;
        for (int i = 0; i < LIMBS; i++) {
            limbs[slot * LIMBS + i] = from[i];
            if (from[i] != 0) {
                signs[slot] = signIfNotZero;
            }
        }
    }

    private void writeInt(int slot, int value) {
        // The absolute value of the least int is no int.
        long magnitude = value;
        signs[slot] = value == 0 ? 0 : 1;
        if (value < 0) {
            magnitude = -magnitude;
            signs[slot] = -1;
        }
        for (int i = 0; i < LIMBS; i++) {
            limbs[slot * LIMBS + i] = magnitude % BASE;
            magnitude /= BASE;
        }
    }

    private int decimalDigit(int slot, int i) {
        long rest = limbs[slot * LIMBS + i / LIMB_DIGITS];
        for (int k = 0; k < i % LIMB_DIGITS; k++) {
            rest /= 10;
        }
        return (int) (rest % 10);
    }

    /** The signed value of the two lowest limbs, which hold every int. */
    private long lowValue(int slot) {
        return signs[slot] * (limbs[slot * LIMBS + 1] * BASE + limbs[slot * LIMBS]);
    }
}

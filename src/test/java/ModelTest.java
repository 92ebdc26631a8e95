import java.util.Map;
import java.util.TreeMap;

/** All promises: objects used for 512 mixed calls each, every answer held against the model's. */
public final class ModelTest {
    private static final Checks CHECKS = new Checks();
    private static final int OBJECTS = 3000;
    private static final int CALLS = 512;
    private static final int NOTHING = -1;
    private static final int[] INTS = {
        0, 0, 1, 1, -1, 2, -3, 7, 10, 37, -100, 99999999, 100000000, -100000000, 999999999, 1000000007,
        1073741823, 1073741824, -1073741825, Integer.MAX_VALUE, Integer.MIN_VALUE};
    private static final int[] WILD = {-2, -1, 0, 7, 8, 9, 12, 14, 40, -40, Integer.MAX_VALUE, Integer.MIN_VALUE};

    // A plain generator with a fixed start, so that every run of the test makes the same calls.
    private static long state = 20261115;
    private static final Map<Integer, Integer> outcomes = new TreeMap<>();
    private static final Map<Integer, Integer> emitAnswers = new TreeMap<>();

    public static void main(String[] args) {
        for (int i = 0; i < OBJECTS; i++) {
            useOneObject(i);
        }
        System.out.println("answers of run: " + outcomes);
        System.out.println("answers of emit, those of 0 and more as 0: " + emitAnswers);
        CHECKS.due("kinds of answers of run", outcomes.size(), 4);
        CHECKS.due("kinds of answers of emit", emitAnswers.size(), 9);
        CHECKS.finish();
    }

    private static int below(int bound) {
        state = state * 6364136223846793005L + 1442695040888963407L;
        return (int) ((state >>> 33) % bound);
    }

    private static int someInt() {
        return below(3) == 0 ? below(1 << 30) * 2 - (1 << 30) : INTS[below(INTS.length)];
    }

    private static int someVariable() {
        return below(40) == 0 ? WILD[below(WILD.length)] : below(8);
    }

    private static int someRounds() {
        return below(20) == 0 ? WILD[below(WILD.length)] : 1 + below(6);
    }

    private static void useOneObject(int number) {
        FixnumBailout machine = new FixnumBailout();
        Model model = new Model();
        // Objects differ in how many of their calls build programs, so that short and full ones both come up.
        int emits = 30 + below(60);
        // Some also pile up numbers or blocks, which random tokens alone seldom do.
        int piled = below(4) == 0 ? below(2) : below(4) == 0 ? Ops.REPEAT : NOTHING;
        boolean finishing = false;
        for (int i = 0; i < CALLS; i++) {
            String call = "object " + number + ", call " + i + ": ";
            // A full program refuses all tokens: most of the calls should meet another.
            if (model.tokens() == 40 && below(8) == 0) {
                machine.clear();
                model.clear();
                finishing = false;
                continue;
            }
            boolean unfinished = model.depth() != 0 || model.open() != 0;
            if (finishing && unfinished && model.tokens() < 40) {
                emit(machine, model, call, model.depth() != 0 ? 2 : 11, below(8));
            } else if (finishing) {
                run(machine, model, call);
                finishing = false;
            } else if (below(100) < emits) {
                emitSome(machine, model, call, piled);
                finishing = below(30) == 0 || model.tokens() == 32;
            } else {
                otherCall(machine, model, call);
            }
        }
    }

    private static void emitSome(FixnumBailout machine, Model model, String call, int piled) {
        int op = below(12);
        int kind = below(60);
        if (kind == 0) {
            op = below(2) == 0 ? WILD[below(WILD.length)] : below(12);
        } else if (piled != NOTHING && below(2) == 0) {
            op = piled;
        } else if (kind < 45 && model.depth() >= 2) {
            op = kind < 6 ? below(2) : kind < 20 ? 5 : 3 + below(6);
        } else if (kind < 40) {
            op = kind < 3 ? 10 : kind < 12 && model.depth() == 1 ? 2 : below(2);
        }
        int argument = op == 0 ? someInt() : op == 10 ? someRounds() : someVariable();
        emit(machine, model, call, op, argument);
    }

    private static void emit(FixnumBailout machine, Model model, String call, int op, int argument) {
        int got = machine.emit(op, argument);
        CHECKS.due(call + "emit(" + op + ", " + argument + ")", got, model.emit(op, argument));
        emitAnswers.merge(Math.min(got, 0), 1, Integer::sum);
    }

    private static void otherCall(FixnumBailout machine, Model model, String call) {
        int v = someVariable();
        int w = someVariable();
        int i = below(10) == 0 ? WILD[below(WILD.length)] : below(45);
        switch (below(14)) {
            case 0 -> {
                if (below(4) == 0) {
                    machine.clear();
                    model.clear();
                }
            }
            case 1 -> {
                int value = someInt();
                CHECKS.due(call + "set(" + v + ", " + value + ")", machine.set(v, value), model.set(v, value));
            }
            case 2 -> CHECKS.due(call + "tokens()", machine.tokens(), model.tokens());
            case 3 -> CHECKS.due(call + "sign(" + v + ")", machine.sign(v), model.sign(v));
            case 4 -> CHECKS.due(call + "digits(" + v + ")", machine.digits(v), model.digits(v));
            case 5, 6 -> CHECKS.due(call + "digit(" + v + ", " + i + ")", machine.digit(v, i), model.digit(v, i));
            case 7 -> CHECKS.due(call + "compare(" + v + ", " + w + ")", machine.compare(v, w), model.compare(v, w));
            case 8 -> CHECKS.due(call + "isInt(" + v + ")", machine.isInt(v), model.isInt(v));
            case 9 -> CHECKS.due(call + "asInt(" + v + ")", machine.asInt(v), model.asInt(v));
            default -> run(machine, model, call);
        }
    }

    private static void run(FixnumBailout machine, Model model, String call) {
        int got = machine.run();
        CHECKS.due(call + "run()", got, model.run());
        outcomes.merge(got, 1, Integer::sum);
    }
}

import java.math.BigInteger;
import java.util.ArrayDeque;
import java.util.ArrayList;
import java.util.Arrays;
import java.util.Deque;
import java.util.List;

/** The document once more, over BigInteger and with nothing remembered but variables and tokens. */
final class Model {
    private final BigInteger[] variables = new BigInteger[8];
    private final List<int[]> program = new ArrayList<>();
    private final Deque<BigInteger> stack = new ArrayDeque<>();

    Model() {
        Arrays.fill(variables, BigInteger.ZERO);
    }

    int emit(int op, int argument) {
        if (op < 0 || op > 11) {
            return -1;
        }
        if (program.size() == 40) {
            return -3;
        }
        if ((op == 1 || op == 2) && !known(argument) || op == 10 && (argument < 1 || argument > 6)) {
            return -2;
        }
        int depth = depth();
        if (depth < (op >= 3 && op <= 8 ? 2 : op == 2 || op == 9 ? 1 : 0)) {
            return -4;
        }
        if ((op == 0 || op == 1) && depth == 6) {
            return -5;
        }
        if (op == 9 && depth != 1 || (op == 10 || op == 11) && depth != 0) {
            return -6;
        }
        if ((op == 9 || op == 10) && open() == 3) {
            return -7;
        }
        if (op == 11 && open() == 0) {
            return -8;
        }
        program.add(new int[] {op, argument});
        return program.size() - 1;
    }

    void clear() {
        program.clear();
    }

    int set(int variable, int value) {
        if (!known(variable)) {
            return -2;
        }
        variables[variable] = BigInteger.valueOf(value);
        return 0;
    }

    int run() {
        if (depth() != 0 || open() != 0) {
            return -9;
        }
        stack.clear();
        return runPart(0, program.size());
    }

    int tokens() {
        return program.size();
    }

    int sign(int variable) {
        return known(variable) ? variables[variable].signum() : -2;
    }

    int digits(int variable) {
        return known(variable) ? variables[variable].abs().toString().length() : -2;
    }

    int digit(int variable, int i) {
        if (!known(variable) || i < 0) {
            return -2;
        }
        String text = variables[variable].abs().toString();
        return i < text.length() ? text.charAt(text.length() - 1 - i) - '0' : 0;
    }

    int compare(int a, int b) {
        return known(a) && known(b) ? variables[a].compareTo(variables[b]) : -2;
    }

    boolean isInt(int variable) {
        return known(variable) && variables[variable].equals(BigInteger.valueOf(variables[variable].intValue()));
    }

    int asInt(int variable) {
        return isInt(variable) ? variables[variable].intValue() : 0;
    }

    private static boolean known(int variable) {
        return 0 <= variable && variable <= 7;
    }

    int depth() {
        int depth = 0;
        for (int[] token : program) {
            depth += token[0] <= 1 ? 1 : token[0] <= 9 ? -1 : 0;
        }
        return depth;
    }

    int open() {
        int open = 0;
        for (int[] token : program) {
            open += token[0] == 9 || token[0] == 10 ? 1 : token[0] == 11 ? -1 : 0;
        }
        return open;
    }

    private int endOf(int start) {
        int open = 0;
        for (int at = start; ; at++) {
            int op = program.get(at)[0];
            open += op == 9 || op == 10 ? 1 : op == 11 ? -1 : 0;
            if (open == 0) {
                return at;
            }
        }
    }

    private int runPart(int from, int to) {
        int at = from;
        while (at < to) {
            int op = program.get(at)[0];
            int argument = program.get(at)[1];
            int outcome = 0;
            if (op == 9 || op == 10) {
                int end = endOf(at);
                int rounds = op == 10 ? argument : stack.pop().signum() == 0 ? 0 : 1;
                for (int i = 0; i < rounds && outcome == 0; i++) {
                    outcome = runPart(at + 1, end);
                }
                at = end;
            } else {
                outcome = step(op, argument);
            }
            if (outcome != 0) {
                return outcome;
            }
            at++;
        }
        return 0;
    }

    private int step(int op, int argument) {
        if (op == 0) {
            stack.push(BigInteger.valueOf(argument));
            return 0;
        }
        if (op == 1) {
            stack.push(variables[argument]);
            return 0;
        }
        if (op == 2) {
            variables[argument] = stack.pop();
            return 0;
        }
        BigInteger y = stack.pop();
        BigInteger x = stack.pop();
        if ((op == 6 || op == 7) && y.signum() == 0) {
            return 1;
        }
        BigInteger result = switch (op) {
            case 3 -> x.add(y);
            case 4 -> x.subtract(y);
            case 5 -> x.multiply(y);
            case 6 -> x.divide(y);
            case 7 -> x.remainder(y);
            default -> BigInteger.valueOf(x.compareTo(y) < 0 ? 1 : 0);
        };
        stack.push(result);
        return result.abs().compareTo(BigInteger.TEN.pow(40)) >= 0 ? 2 : 0;
    }
}

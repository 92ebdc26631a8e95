import java.util.ArrayList;
import java.util.List;

/** A machine whose answers are written down, call by call. */
final class Recorder {
    private final FixnumBailout machine;
    private final List<String> answers = new ArrayList<>();

    Recorder(FixnumBailout machine) {
        this.machine = machine;
    }

    List<String> answers() {
        return answers;
    }

    boolean emit(int op, int argument) {
        int answer = machine.emit(op, argument);
        answers.add("emit(" + op + ", " + argument + ") = " + answer);
        return answer >= 0;
    }

    void clear() {
        machine.clear();
        answers.add("clear()");
    }

    void set(int variable, int value) {
        answers.add("set(" + variable + ", " + value + ") = " + machine.set(variable, value));
    }

    void run() {
        answers.add("run() = " + machine.run());
    }

    /** Empties the stack into the variables, counts the rounds of the open blocks, and closes them. */
    void finishProgram() {
        for (int v = 0; v < 7 && emit(Ops.STORE, v); v++) {
            continue;
        }
        int[] count = Programs.count(6);
        for (int i = 0; i < count.length && emit(count[i], count[i + 1]); i += 2) {
            continue;
        }
        for (int i = 0; i < 4 && emit(Ops.END, 0); i++) {
            continue;
        }
    }

    /** Appends tokens up to the first refused one. */
    void fillProgram() {
        for (int i = 0; i < 20 && emit(Ops.PUSH, 1000 + i) && emit(Ops.STORE, i % 8); i++) {
            continue;
        }
        emit(Ops.PUSH, 1);
    }

    /** Every question of every variable. */
    void questions() {
        answers.add("tokens() = " + machine.tokens());
        for (int v = 0; v < 8; v++) {
            int digits = machine.digits(v);
            StringBuilder text = new StringBuilder();
            // The one behind the first digit is asked too: it is 0.
            for (int i = Math.min(digits, 41); i >= 0; i--) {
                text.append(machine.digit(v, i));
            }
            answers.add("variable " + v + " = " + machine.sign(v) + " of " + digits + " digits: " + text + ", "
                + machine.isInt(v) + " " + machine.asInt(v));
        }
        for (int a = 0; a < 8; a++) {
            StringBuilder text = new StringBuilder();
            for (int b = 0; b < 8; b++) {
                text.append(' ').append(machine.compare(a, b));
            }
            answers.add("compare(" + a + ", ..) =" + text);
        }
    }
}

import java.util.ArrayList;
import java.util.List;
import java.util.function.Consumer;
import java.util.function.Supplier;

/** Whether two machines answer alike, whatever they are asked next. */
final class Alike {
    static final String NO_DIFFERENCE = "no difference";
    private static final List<Consumer<Recorder>> FUTURES = futures();

    private Alike() {
    }

    /** What a call changes for the calls behind it: a machine that had it is held against one that had not. */
    static String changeBy(Supplier<FixnumBailout> state, Consumer<FixnumBailout> call) {
        return difference(() -> {
            FixnumBailout machine = state.get();
            call.accept(machine);
            return machine;
        }, state);
    }

    /** The first answer in which machines of the two kinds differ; each future is asked of new ones. */
    static String difference(Supplier<FixnumBailout> one, Supplier<FixnumBailout> other) {
        for (Consumer<Recorder> future : FUTURES) {
            List<String> ofOne = answersOf(one.get(), future);
            List<String> ofOther = answersOf(other.get(), future);
            for (int i = 0; i < Math.min(ofOne.size(), ofOther.size()); i++) {
                if (!ofOne.get(i).equals(ofOther.get(i))) {
                    return ofOne.get(i) + " instead of " + ofOther.get(i);
                }
            }
        }
        return NO_DIFFERENCE;
    }

    private static List<String> answersOf(FixnumBailout machine, Consumer<Recorder> future) {
        Recorder recorder = new Recorder(machine);
        future.accept(recorder);
        return recorder.answers();
    }

    private static List<Consumer<Recorder>> futures() {
        List<Consumer<Recorder>> all = new ArrayList<>();
        all.add(Recorder::questions);
        all.add(Alike::runAtOnce);
        all.add(Alike::finishAndRun);
        all.add(Alike::fillAndRun);
        all.add(Alike::beginAnew);
        all.add(Alike::setAndRun);
        for (int op = -1; op <= 12; op++) {
            int each = op;
            all.add(recorder -> recorder.emit(each, 1));
            all.add(recorder -> recorder.emit(each, 8));
        }
        return all;
    }

    private static void runAtOnce(Recorder recorder) {
        recorder.run();
        recorder.questions();
    }

    private static void finishAndRun(Recorder recorder) {
        recorder.finishProgram();
        runAtOnce(recorder);
    }

    private static void fillAndRun(Recorder recorder) {
        recorder.finishProgram();
        recorder.fillProgram();
        runAtOnce(recorder);
    }

    private static void beginAnew(Recorder recorder) {
        recorder.clear();
        recorder.finishProgram();
        recorder.fillProgram();
        runAtOnce(recorder);
    }

    private static void setAndRun(Recorder recorder) {
        for (int v = 0; v < 8; v++) {
            recorder.set(v, 7 - v);
        }
        finishAndRun(recorder);
    }
}

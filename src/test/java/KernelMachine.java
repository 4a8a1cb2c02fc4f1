import java.util.Set;
import java.util.TreeSet;

/** A Kernel as a machine that can be surveyed. */
final class KernelMachine implements Survey.Machine {
    private final Kernel kernel;

    KernelMachine(Kernel kernel) {
        this.kernel = kernel;
    }

    @Override
    public int inputs() {
        return kernel.inputs;
    }

    @Override
    public int outputs() {
        return kernel.outputs;
    }

    @Override
    public int pauses() {
        return kernel.pauses;
    }

    private Kernel.Outcome react(int state, int inputs) {
        Set<Integer> held = state == Survey.FIRST ? null : new TreeSet<>();
        for (int k = 0; held != null && k < 8; k++) {
            if ((state >> k & 1) == 1) {
                held.add(k);
            }
        }
        return kernel.instant(inputs, held);
    }

    @Override
    public int next(int state, int inputs) {
        Kernel.Outcome outcome = react(state, inputs);
        return outcome.answer == 2 ? Survey.NO_REACTION : outcome.answer == 1 ? Survey.END : Kernel.bits(outcome.chosen);
    }

    @Override
    public int shows(int state, int inputs) {
        Kernel.Outcome outcome = react(state, inputs);
        int shown = 0;
        for (int k = 0; k < kernel.outputs; k++) {
            shown |= outcome.statuses[kernel.inputs + k] << k;
        }
        return shown;
    }
}

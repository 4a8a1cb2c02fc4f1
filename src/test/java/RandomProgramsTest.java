import java.util.Random;
import java.util.Set;
import java.util.TreeSet;

/** Many programs made by chance, from fixed seeds: all answers against those found the slow way. */
final class RandomProgramsTest {
    private static final Check CHECK = new Check("RandomProgramsTest");
    private static int read;
    private static int explored;
    private static int doubts;
    private static int loopFaults;

    public static void main(String[] args) {
        int from = args.length > 0 ? Integer.parseInt(args[0]) : 0;
        int to = args.length > 1 ? Integer.parseInt(args[1]) : 3000;
        SignalEngine engine = new SignalEngine();
        for (int seed = from; seed < to; seed++) {
            if (seed % 10 == 0) {
                engine = new SignalEngine();
            }
            compare(seed, new Sketch(seed, 6 + seed % 50, 1 + seed % 4, seed % 2 == 1), engine);
        }
        System.out.println("programs without a fault " + read + ", loops without an instant " + loopFaults
                + ", explored " + explored + ", with doubts " + doubts);
        CHECK.holds("enough programs of each sort", read > (to - from) / 2 && explored > (to - from) / 8
                && doubts > (to - from) / 100 && loopFaults > (to - from) / 100);
        CHECK.finish();
    }

    /** The engine has read other programs before, which must not show through. */
    private static void compare(int seed, Sketch sketch, SignalEngine x) {
        Kernel kernel = sketch.kernel;
        Check.feed(x, sketch.text());
        int fault = x.read();
        String mark = "seed " + seed + " ";
        CHECK.equal(mark + "read()", fault, kernel.fault());
        if (fault != 0 || kernel.fault() != 0) {
            loopFaults += fault % 8 == 4 ? 1 : 0;
            return;
        }
        read++;
        compareTree(mark, x, sketch);
        run(mark, x, kernel, new Random(seed));
        boolean small = kernel.pauses <= 8 && kernel.inputs <= 4 && kernel.pieces.size() <= 300 && kernel.weights <= 300;
        if (!small) {
            CHECK.equal(mark + "explore()", x.explore(), -1);
            return;
        }
        explored++;
        Survey survey = new Survey(new KernelMachine(kernel));
        new SurveyCheck(CHECK, mark, x, survey).compareAll();
        doubts += x.doubt(0) == SignalEngine.NONE ? 0 : 1;
    }

    private static void compareTree(String mark, SignalEngine x, Sketch sketch) {
        Kernel kernel = sketch.kernel;
        int[] counts = {kernel.nodes.size(), kernel.pieces.size(), kernel.inputs, kernel.outputs,
            kernel.signals - kernel.inputs - kernel.outputs, kernel.pauses, kernel.weights, kernel.deepest,
            Kernel.bits(kernel.root.codes)};
        for (int what = 0; what < counts.length; what++) {
            CHECK.equal(mark + "count(" + what + ")", x.count(what), counts[what]);
        }
        for (int n = 0; n <= kernel.nodes.size(); n++) {
            compareNode(mark + "node(" + n + ", ", x, n, n < kernel.nodes.size() ? kernel.nodes.get(n) : null);
        }
        for (int p = 0; p <= kernel.pieces.size(); p++) {
            for (int what = 0; what < 3; what++) {
                int due = p == kernel.pieces.size() ? -1 : kernel.pieceRows.get(p)[what];
                CHECK.equal(mark + "piece(" + p + ", " + what + ")", x.piece(p, what), due);
            }
        }
        for (int k = 0; k < kernel.signals; k++) {
            String name = sketch.name(k);
            for (int i = 0; i <= name.length(); i++) {
                CHECK.equal(mark + "letter(" + k + ", " + i + ")", x.letter(k, i), i < name.length() ? name.charAt(i) : -1);
            }
        }
    }

    private static void compareNode(String mark, SignalEngine x, int n, Kernel.Node at) {
        int[] due = {-1, -1, -1, -1, -1, -1, -1, -1};
        if (at != null) {
            int number = at.kind == Kernel.PAUSE ? at.pause : at.kind == Kernel.EXIT ? at.code
                    : at.test != null ? at.piece : at.signal;
            due = new int[] {at.kind, at.first == null ? -1 : at.first.number, at.second == null ? -1 : at.second.number,
                number, Kernel.bits(at.codes), at.line, at.weight, -1};
        }
        for (int what = 0; what < due.length; what++) {
            CHECK.equal(mark + what + ")", x.node(n, what), due[what]);
        }
    }

    /** Some instants one after the other, with a new start after an end. */
    private static void run(String mark, SignalEngine x, Kernel kernel, Random random) {
        Set<Integer> held = null;
        int reactions = 0;
        for (int i = 0; i < 12; i++) {
            int inputs = random.nextInt(1 << kernel.inputs);
            Kernel.Outcome outcome = kernel.instant(inputs, held);
            CHECK.equal(mark + "instant " + i, x.instant(inputs), outcome.answer);
            for (int k = 0; k < outcome.statuses.length; k++) {
                CHECK.equal(mark + "status(" + k + ") in instant " + i, x.status(k), outcome.statuses[k]);
            }
            if (outcome.answer != 2) {
                held = outcome.answer == 1 ? new TreeSet<>() : outcome.chosen;
                reactions++;
            }
            for (int k = 0; k <= kernel.pauses; k++) {
                CHECK.holds(mark + "selected(" + k + ") after instant " + i,
                        x.selected(k) == (held != null && held.contains(k)));
            }
            CHECK.equal(mark + "count(10)", x.count(10), reactions);
            CHECK.equal(mark + "count(11)", x.count(11), outcome.answer == 1 ? 2 : 1);
            CHECK.equal(mark + "count(12)", x.count(12), held == null ? 0 : held.size());
            if (outcome.answer == 1) {
                CHECK.equal(mark + "restart()", x.restart(), reactions);
                held = null;
                reactions = 0;
            }
        }
    }
}

import java.util.List;
import java.util.Random;
import java.util.Set;
import java.util.TreeSet;

/** Many programs made by chance, from fixed seeds: all answers against those found the slow way. */
final class RandomProgramsTest {
    private static final Check CHECK = new Check("RandomProgramsTest");
    private static int read;
    private static int explored;
    private static int doubts;
    private static int loopFaults;

    public static void main(String[] args) {
        int from = args.length > 0 ? Integer.parseInt(args[0]) : 0;
        int to = args.length > 1 ? Integer.parseInt(args[1]) : 3000;
        SignalEngine engine = new SignalEngine();
        for (int seed = from; seed < to; seed++) {
            if (seed % 10 == 0) {
                engine = new SignalEngine();
            }
            compare(seed, new Sketch(seed, 6 + seed % 50, 1 + seed % 4, seed % 2 == 1), engine);
        }
        System.out.println("programs without a fault " + read + ", loops without an instant " + loopFaults
                + ", explored " + explored + ", with doubts " + doubts);
        CHECK.holds("enough programs of each sort", read > (to - from) / 2 && explored > (to - from) / 8
                && doubts > (to - from) / 100 && loopFaults > (to - from) / 100);
        CHECK.finish();
    }

    /** The engine has read other programs before, which must not show through. */
    private static void compare(int seed, Sketch sketch, SignalEngine x) {
        Kernel kernel = sketch.kernel;
        Check.feed(x, sketch.text());
        int fault = x.read();
        String mark = "seed " + seed + " ";
        CHECK.equal(mark + "read()", fault, kernel.fault());
        if (fault != 0 || kernel.fault() != 0) {
            loopFaults += fault % 8 == 4 ? 1 : 0;
            return;
        }
        read++;
        compareTree(mark, x, sketch);
        run(mark, x, kernel, new Random(seed));
        boolean small = kernel.pauses <= 8 && kernel.inputs <= 4 && kernel.pieces.size() <= 300 && kernel.weights <= 300;
        if (!small) {
            CHECK.equal(mark + "explore()", x.explore(), -1);
            return;
        }
        explored++;
        Survey survey = new Survey(kernel);
        CHECK.equal(mark + "explore()", x.explore(), survey.next.size());
        compareStates(mark, x, survey);
        compareOutputs(mark, x, survey);
        compareAlike(mark, x, survey);
        compareNet(mark, x, survey);
    }

    private static void compareTree(String mark, SignalEngine x, Sketch sketch) {
        Kernel kernel = sketch.kernel;
        int[] counts = {kernel.nodes.size(), kernel.pieces.size(), kernel.inputs, kernel.outputs,
            kernel.signals - kernel.inputs - kernel.outputs, kernel.pauses, kernel.weights, kernel.deepest,
            Kernel.bits(kernel.root.codes)};
        for (int what = 0; what < counts.length; what++) {
            CHECK.equal(mark + "count(" + what + ")", x.count(what), counts[what]);
        }
        for (int n = 0; n <= kernel.nodes.size(); n++) {
            compareNode(mark + "node(" + n + ", ", x, n, n < kernel.nodes.size() ? kernel.nodes.get(n) : null);
        }
        for (int p = 0; p <= kernel.pieces.size(); p++) {
            for (int what = 0; what < 3; what++) {
                int due = p == kernel.pieces.size() ? -1 : kernel.pieceRows.get(p)[what];
                CHECK.equal(mark + "piece(" + p + ", " + what + ")", x.piece(p, what), due);
            }
        }
        for (int k = 0; k < kernel.signals; k++) {
            String name = sketch.name(k);
            for (int i = 0; i <= name.length(); i++) {
                CHECK.equal(mark + "letter(" + k + ", " + i + ")", x.letter(k, i), i < name.length() ? name.charAt(i) : -1);
            }
        }
    }

    private static void compareNode(String mark, SignalEngine x, int n, Kernel.Node at) {
        int[] due = {-1, -1, -1, -1, -1, -1, -1, -1};
        if (at != null) {
            int number = at.kind == Kernel.PAUSE ? at.pause : at.kind == Kernel.EXIT ? at.code
                    : at.test != null ? at.piece : at.signal;
            due = new int[] {at.kind, at.first == null ? -1 : at.first.number, at.second == null ? -1 : at.second.number,
                number, Kernel.bits(at.codes), at.line, at.weight, -1};
        }
        for (int what = 0; what < due.length; what++) {
            CHECK.equal(mark + what + ")", x.node(n, what), due[what]);
        }
    }

    /** Some instants one after the other, with a new start after an end. */
    private static void run(String mark, SignalEngine x, Kernel kernel, Random random) {
        Set<Integer> held = null;
        int reactions = 0;
        for (int i = 0; i < 12; i++) {
            int inputs = random.nextInt(1 << kernel.inputs);
            Kernel.Outcome outcome = kernel.instant(inputs, held);
            CHECK.equal(mark + "instant " + i, x.instant(inputs), outcome.answer);
            for (int k = 0; k < outcome.statuses.length; k++) {
                CHECK.equal(mark + "status(" + k + ") in instant " + i, x.status(k), outcome.statuses[k]);
            }
            if (outcome.answer != 2) {
                held = outcome.answer == 1 ? new TreeSet<>() : outcome.chosen;
                reactions++;
            }
            for (int k = 0; k <= kernel.pauses; k++) {
                CHECK.holds(mark + "selected(" + k + ") after instant " + i,
                        x.selected(k) == (held != null && held.contains(k)));
            }
            CHECK.equal(mark + "count(10)", x.count(10), reactions);
            CHECK.equal(mark + "count(11)", x.count(11), outcome.answer == 1 ? 2 : 1);
            CHECK.equal(mark + "count(12)", x.count(12), held == null ? 0 : held.size());
            if (outcome.answer == 1) {
                CHECK.equal(mark + "restart()", x.restart(), reactions);
                held = null;
                reactions = 0;
            }
        }
    }

    private static void compareStates(String mark, SignalEngine x, Survey survey) {
        int steady = 0;
        int[] doubt = {-1, -1, -1};
        for (int state = -1; state <= 258; state++) {
            boolean there = survey.next.containsKey(state);
            List<Integer> way = there ? survey.path.get(state) : List.of();
            CHECK.equal(mark + "distance(" + state + ")", x.distance(state), there ? way.size() : -1);
            for (int i = 0; i <= way.size(); i++) {
                CHECK.equal(mark + "path(" + state + ", " + i + ")", x.path(state, i), i < way.size() ? way.get(i) : -1);
            }
            boolean all = there;
            for (int inputs = -1; inputs <= survey.options; inputs++) {
                boolean asked = there && inputs >= 0 && inputs < survey.options;
                int to = asked ? survey.next.get(state)[inputs] : -1;
                CHECK.equal(mark + "next(" + state + ", " + inputs + ")", x.next(state, inputs), to);
                CHECK.equal(mark + "shows(" + state + ", " + inputs + ")", x.shows(state, inputs),
                        asked ? survey.shows.get(state)[inputs] : -1);
                if (asked && to == -1) {
                    all = false;
                    if (doubt[0] == -1 || way.size() < doubt[0]) {
                        doubt = new int[] {way.size(), state, inputs};
                    }
                }
            }
            steady += all ? 1 : 0;
        }
        for (int what = 0; what < 3; what++) {
            CHECK.equal(mark + "doubt(" + what + ")", x.doubt(what), doubt[what]);
        }
        doubts += doubt[0] == -1 ? 0 : 1;
        CHECK.equal(mark + "count(13)", x.count(13), survey.next.size());
        CHECK.equal(mark + "count(14)", x.count(14), steady);
    }

    private static void compareOutputs(String mark, SignalEngine x, Survey survey) {
        int outputs = survey.kernel.outputs;
        int[][] times = new int[outputs][outputs];
        int reactions = 0;
        for (int state : survey.next.keySet()) {
            for (int shown : survey.shows.get(state)) {
                reactions += shown == -1 ? 0 : 1;
                for (int j = 0; shown != -1 && j < outputs; j++) {
                    for (int k = 0; k < outputs; k++) {
                        times[j][k] += (shown >> j & 1) & (shown >> k & 1);
                    }
                }
            }
        }
        for (int j = -1; j <= outputs; j++) {
            boolean there = reactions > 0 && j >= 0 && j < outputs;
            int often = there ? times[j][j] : 0;
            int ever = !there ? -1 : often == 0 ? 0 : often == reactions ? 2 : 1;
            CHECK.equal(mark + "ever(" + j + ")", x.ever(j), ever);
            for (int k = -1; k <= outputs; k++) {
                boolean both = there && k >= 0 && k < outputs;
                CHECK.equal(mark + "together(" + j + ", " + k + ")", x.together(j, k), both ? times[j][k] : -1);
            }
        }
    }

    private static void compareAlike(String mark, SignalEngine x, Survey survey) {
        boolean[][] apart = survey.toldApart();
        int classes = 0;
        for (int state = -1; state <= 258; state++) {
            int least = -1;
            if (survey.next.containsKey(state)) {
                for (int other : survey.next.descendingKeySet()) {
                    least = apart[state][other] ? least : other;
                }
                classes += least == state ? 1 : 0;
            }
            CHECK.equal(mark + "alike(" + state + ")", x.alike(state), least);
        }
        CHECK.equal(mark + "classes()", x.classes(), classes);
    }

    private static void compareNet(String mark, SignalEngine x, Survey survey) {
        long[] truths = survey.truths();
        List<Set<String>> all = Survey.noMultiplexers();
        int[] sizes = new int[survey.functions()];
        for (int i = 0; i < sizes.length; i++) {
            List<Set<String>> own = Survey.noMultiplexers();
            Survey.addMultiplexers(truths, i, own);
            Survey.addMultiplexers(truths, i, all);
            sizes[i] = sum(own);
        }
        CHECK.equal(mark + "lay()", x.lay(), sum(all));
        CHECK.equal(mark + "count(15)", x.count(15), sum(all));
        for (int v = -1; v <= 13; v++) {
            CHECK.equal(mark + "level(" + v + ")", x.level(v), v < 0 || v > 12 ? 0 : all.get(12 - v).size());
        }
        for (int i = sizes.length; i >= -1; i--) {
            CHECK.equal(mark + "size(" + i + ")", x.size(i), i < 0 || i == sizes.length ? -1 : sizes[i]);
        }
        for (int choice = 0; choice < truths.length; choice++) {
            CHECK.equal(mark + "pass(" + choice + ")", x.pass(choice), truths[choice]);
        }
    }

    private static int sum(List<Set<String>> atBit) {
        int sum = 0;
        for (Set<String> part : atBit) {
            sum += part.size();
        }
        return sum;
    }
}

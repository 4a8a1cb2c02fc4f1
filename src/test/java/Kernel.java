import java.util.ArrayList;
import java.util.HashSet;
import java.util.List;
import java.util.Set;
import java.util.TreeSet;

/**
 * A second, slow way to what SignalEngine answers: a tree of the eleven kinds with the rules of an
 * instant written down as the document has them, by plain recursion, each local signal solved at
 * its own place.
 */
final class Kernel {
    static final int NOTHING = 0;
    static final int PAUSE = 1;
    static final int EMIT = 2;
    static final int PRESENT = 3;
    static final int SUSPEND = 4;
    static final int SEQUENCE = 5;
    static final int LOOP = 6;
    static final int BOTH = 7;
    static final int TRAP = 8;
    static final int EXIT = 9;
    static final int LOCAL = 10;

    /** A test: kind 0 a signal, 1 not, 2 and, 3 or. */
    static final class Test {
        final int kind;
        final int signal;
        final String name;
        final Test a;
        final Test b;

        Test(int kind, int signal, String name, Test a, Test b) {
            this.kind = kind;
            this.signal = signal;
            this.name = name;
            this.a = a;
            this.b = b;
        }

        int value(int[] statuses) {
            switch (kind) {
                case 0:
                    return statuses[signal];
                case 1:
                    return a.value(statuses) == 2 ? 2 : 1 - a.value(statuses);
                default:
                    int strong = kind == 3 ? 1 : 0;
                    int left = a.value(statuses);
                    int right = b.value(statuses);
                    if (left == strong || right == strong) {
                        return strong;
                    }
                    return left == 2 || right == 2 ? 2 : 1 - strong;
            }
        }
    }

    /** A node of the tree. */
    static final class Node {
        final int kind;
        final int line;
        final Node first;
        final Node second;
        int signal = -1;
        Test test;
        Object trap;
        int number;
        int pause = -1;
        int piece = -1;
        int code = -1;
        int traps;
        int weight;
        Set<Integer> codes = new TreeSet<>();

        Node(int kind, int line, Node first, Node second) {
            this.kind = kind;
            this.line = line;
            this.first = first;
            this.second = second;
        }
    }

    final Node root;
    final int inputs;
    final int outputs;
    final int signals;
    final List<Node> nodes = new ArrayList<>();
    final List<Test> pieces = new ArrayList<>();
    final List<int[]> pieceRows = new ArrayList<>();
    int pauses;
    int weights;
    int deepest;

    Kernel(Node root, int inputs, int outputs, int signals) {
        this.root = root;
        this.inputs = inputs;
        this.outputs = outputs;
        this.signals = signals;
        number(root, new ArrayList<>(), 1);
    }

    // ---- the tree

    private void number(Node at, List<Object> around, int weight) {
        at.number = nodes.size();
        nodes.add(at);
        at.traps = around.size();
        at.weight = weight;
        weights += weight;
        deepest = Math.max(deepest, around.size());
        if (at.kind == PAUSE) {
            at.pause = pauses;
            pauses++;
        }
        if (at.kind == EXIT) {
            at.code = 2 + around.size() - 1 - around.lastIndexOf(at.trap);
        }
        if (at.test != null) {
            at.piece = numberPiece(at.test);
        }
        if (at.kind == TRAP) {
            around.add(at.trap);
        }
        if (at.first != null) {
            number(at.first, around, at.kind == LOOP ? weight + 1 : weight);
        }
        if (at.second != null) {
            number(at.second, around, at.kind == SEQUENCE ? weight + 1 : weight);
        }
        if (at.kind == TRAP) {
            around.remove(around.size() - 1);
        }
        at.codes = codes(at);
    }

    private int numberPiece(Test at) {
        int here = pieces.size();
        pieces.add(at);
        int[] row = {at.kind, at.signal, -1};
        pieceRows.add(row);
        if (at.a != null) {
            row[1] = numberPiece(at.a);
        }
        if (at.b != null) {
            row[2] = numberPiece(at.b);
        }
        return here;
    }

    private static Set<Integer> codes(Node at) {
        Set<Integer> codes = new TreeSet<>();
        switch (at.kind) {
            case NOTHING:
            case EMIT:
                codes.add(0);
                break;
            case PAUSE:
                codes.add(1);
                break;
            case EXIT:
                codes.add(at.code);
                break;
            case SEQUENCE:
                codes.addAll(at.first.codes);
                if (codes.remove(0)) {
                    codes.addAll(at.second.codes);
                }
                break;
            case BOTH:
                codes.addAll(pairs(at.first.codes, at.second.codes));
                break;
            case TRAP:
                codes.addAll(around(at.first.codes));
                break;
            default:
                codes.addAll(at.first.codes);
                if (at.second != null) {
                    codes.addAll(at.second.codes);
                }
                break;
        }
        return codes;
    }

    private static Set<Integer> pairs(Set<Integer> a, Set<Integer> b) {
        Set<Integer> codes = new TreeSet<>();
        for (int left : a) {
            for (int right : b) {
                codes.add(Math.max(left, right));
            }
        }
        return codes;
    }

    private static int around(int code) {
        return code == 2 ? 0 : code > 2 ? code - 1 : code;
    }

    private static Set<Integer> around(Set<Integer> within) {
        Set<Integer> codes = new TreeSet<>();
        for (int code : within) {
            codes.add(around(code));
        }
        return codes;
    }

    static int bits(Set<Integer> codes) {
        int bits = 0;
        for (int code : codes) {
            bits |= 1 << code;
        }
        return bits;
    }

    /** The fault of the tree as the document has it, or 0. */
    int fault() {
        for (Node at : nodes) {
            if (at.kind == LOOP && at.first.codes.contains(0)) {
                return 4 + 8 * at.line;
            }
        }
        boolean large = inputs > 31 || outputs > 31 || signals > 400 || pauses > 200
                || pieces.size() > 1000 || deepest > 8 || weights > 1200;
        return large ? 6 : 0;
    }

    // ---- instants

    /** What a statement must and can do. */
    static final class Result {
        final Set<Integer> mustEmit = new HashSet<>();
        final Set<Integer> canEmit = new HashSet<>();
        final Set<Integer> chosen = new TreeSet<>();
        Set<Integer> can = new TreeSet<>();
        int must = -1;
        boolean doubtful;

        void take(Result other) {
            mustEmit.addAll(other.mustEmit);
            canEmit.addAll(other.canEmit);
            chosen.addAll(other.chosen);
            doubtful |= other.doubtful;
        }
    }

    /** An instant's outcome: code 0 ended, 1 goes on, 2 no reaction. */
    static final class Outcome {
        int answer;
        int[] statuses;
        Set<Integer> chosen;
    }

    /** Runs an instant from the pauses that are held, or from the start when held is null. */
    Outcome instant(int bits, Set<Integer> held) {
        int[] statuses = new int[signals];
        for (int k = 0; k < signals; k++) {
            statuses[k] = k < inputs ? (bits >> k) & 1 : 2;
        }
        Result result = null;
        boolean changed = true;
        while (changed) {
            changed = false;
            result = held == null ? start(root, statuses, true) : resume(root, statuses, true, held);
            for (int k = inputs; k < inputs + outputs; k++) {
                if (statuses[k] == 2 && result.mustEmit.contains(k)) {
                    statuses[k] = 1;
                    changed = true;
                } else if (statuses[k] == 2 && !result.canEmit.contains(k)) {
                    statuses[k] = 0;
                    changed = true;
                }
            }
        }
        Outcome outcome = new Outcome();
        outcome.statuses = new int[inputs + outputs];
        System.arraycopy(statuses, 0, outcome.statuses, 0, inputs + outputs);
        outcome.chosen = result.chosen;
        boolean reacts = !result.doubtful && result.must != -1;
        for (int status : outcome.statuses) {
            reacts &= status != 2;
        }
        outcome.answer = !reacts ? 2 : result.must == 0 ? 1 : 0;
        return outcome;
    }

    private static boolean holds(Node at, Set<Integer> held) {
        if (at == null) {
            return false;
        }
        return at.kind == PAUSE ? held.contains(at.pause) : holds(at.first, held) || holds(at.second, held);
    }

    private static Result ended(int code, boolean sure) {
        Result result = new Result();
        result.can.add(code);
        result.must = sure ? code : -1;
        return result;
    }

    private static Result start(Node at, int[] statuses, boolean sure) {
        switch (at.kind) {
            case NOTHING:
                return ended(0, sure);
            case PAUSE: {
                Result result = ended(1, sure);
                if (sure) {
                    result.chosen.add(at.pause);
                }
                return result;
            }
            case EMIT: {
                Result result = ended(0, sure);
                result.canEmit.add(at.signal);
                if (sure) {
                    result.mustEmit.add(at.signal);
                }
                return result;
            }
            case EXIT:
                return ended(at.code, sure);
            case PRESENT: {
                int value = at.test.value(statuses);
                if (value != 2) {
                    return start(value == 1 ? at.first : at.second, statuses, sure);
                }
                return either(start(at.first, statuses, false), start(at.second, statuses, false));
            }
            case SEQUENCE:
                return behind(start(at.first, statuses, sure), at.second, statuses);
            case BOTH:
                return both(start(at.first, statuses, sure), start(at.second, statuses, sure));
            case TRAP:
                return trapped(start(at.first, statuses, sure));
            case LOCAL:
                return local(at, statuses, sure, null);
            default:
                return start(at.first, statuses, sure);
        }
    }

    private static Result resume(Node at, int[] statuses, boolean sure, Set<Integer> held) {
        switch (at.kind) {
            case PAUSE:
                return ended(0, sure);
            case PRESENT:
                return resume(holds(at.first, held) ? at.first : at.second, statuses, sure, held);
            case SEQUENCE:
                if (!holds(at.first, held)) {
                    return resume(at.second, statuses, sure, held);
                }
                return behind(resume(at.first, statuses, sure, held), at.second, statuses);
            case LOOP:
                return behind(resume(at.first, statuses, sure, held), at.first, statuses);
            case BOTH:
                return both(holds(at.first, held) ? resume(at.first, statuses, sure, held) : ended(0, sure),
                        holds(at.second, held) ? resume(at.second, statuses, sure, held) : ended(0, sure));
            case SUSPEND: {
                int value = at.test.value(statuses);
                if (value == 0) {
                    return resume(at.first, statuses, sure, held);
                }
                Result stays = ended(1, sure && value == 1);
                if (sure && value == 1) {
                    stay(at.first, held, stays.chosen);
                }
                return value == 1 ? stays : either(stays, resume(at.first, statuses, false, held));
            }
            case TRAP:
                return trapped(resume(at.first, statuses, sure, held));
            case LOCAL:
                return local(at, statuses, sure, held);
            default:
                throw new IllegalStateException("kind " + at.kind + " can't resume");
        }
    }

    private static void stay(Node at, Set<Integer> held, Set<Integer> chosen) {
        if (at == null) {
            return;
        }
        if (at.kind == PAUSE && held.contains(at.pause)) {
            chosen.add(at.pause);
        }
        stay(at.first, held, chosen);
        stay(at.second, held, chosen);
    }

    private static Result either(Result a, Result b) {
        Result result = new Result();
        result.take(a);
        result.take(b);
        result.can.addAll(a.can);
        result.can.addAll(b.can);
        return result;
    }

    private static Result behind(Result first, Node second, int[] statuses) {
        if (!first.can.contains(0)) {
            return first;
        }
        Result then = start(second, statuses, first.must == 0);
        Result result = new Result();
        result.take(first);
        result.take(then);
        result.can.addAll(first.can);
        result.can.remove(0);
        result.can.addAll(then.can);
        result.must = first.must == 0 ? then.must : first.must;
        return result;
    }

    private static Result both(Result a, Result b) {
        Result result = new Result();
        result.take(a);
        result.take(b);
        result.can = pairs(a.can, b.can);
        result.must = a.must == -1 || b.must == -1 ? -1 : Math.max(a.must, b.must);
        return result;
    }

    private static Result trapped(Result within) {
        Result result = new Result();
        result.take(within);
        result.can = around(within.can);
        result.must = around(within.must);
        if (within.must >= 2) {
            result.chosen.clear();
        }
        return result;
    }

    private static Result local(Node at, int[] statuses, boolean sure, Set<Integer> held) {
        int[] inner = statuses.clone();
        inner[at.signal] = 2;
        Result result = within(at, inner, sure, held);
        if (result.mustEmit.contains(at.signal)) {
            inner[at.signal] = 1;
        } else if (!result.canEmit.contains(at.signal)) {
            inner[at.signal] = 0;
        }
        if (inner[at.signal] != 2) {
            result = within(at, inner, sure, held);
        } else if (sure) {
            result.doubtful = true;
        }
        result.mustEmit.remove(at.signal);
        result.canEmit.remove(at.signal);
        return result;
    }

    private static Result within(Node at, int[] statuses, boolean sure, Set<Integer> held) {
        return held == null ? start(at.first, statuses, sure) : resume(at.first, statuses, sure, held);
    }
}

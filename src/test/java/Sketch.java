import java.util.ArrayList;
import java.util.List;
import java.util.Random;

/** A program made by chance from a seed: its text, and the tree that the text stands for. */
final class Sketch {
    private static final String[] POOL = {"a", "b", "c", "x", "Y_1", "endless", "In"};
    private static final String[] TRAPS = {"T", "U", "a"};

    /** A statement as a text has it. */
    private static final class Statement {
        final String word;
        Statement first;
        Statement second;
        Kernel.Test test;
        int signal;
        String name;
        Object trap;
        List<String> names = new ArrayList<>();
        int line;

        Statement(String word) {
            this.word = word;
        }
    }

    private final Random random;
    private final int locals;
    private final boolean knotted;
    private final List<String> names = new ArrayList<>();
    private final List<Integer> scope = new ArrayList<>();
    private final List<Object> trapScope = new ArrayList<>();
    private final List<String> trapNames = new ArrayList<>();
    private final StringBuilder text = new StringBuilder();
    private final int inputs;
    private final int outputs;
    private int left;
    private int line = 1;

    final Kernel kernel;

    /**
     * size: how many statements there are at most, more or less; locals: how many may be nested;
     * knotted: whether it has above all loops, traps and local signals, one within the other.
     */
    Sketch(long seed, int size, int locals, boolean knotted) {
        random = new Random(seed);
        this.locals = locals;
        this.knotted = knotted;
        left = size;
        inputs = random.nextInt(knotted ? 3 : 5);
        outputs = random.nextInt(4);
        List<String> pool = new ArrayList<>(List.of(POOL));
        for (int k = 0; k < inputs + outputs; k++) {
            scope.add(names.size());
            names.add(pool.remove(random.nextInt(pool.size())));
        }
        Statement body = knotted ? knot() : statement(5, 0);
        printList("in", 0, inputs);
        printList("out", inputs, inputs + outputs);
        print(body, 0);
        gap();
        kernel = new Kernel(plain(body), inputs, outputs, names.size());
    }

    String text() {
        return text.toString();
    }

    String name(int signal) {
        return names.get(signal);
    }

    // ---- making

    private int visible(String name) {
        for (int i = scope.size() - 1; i >= 0; i--) {
            if (names.get(scope.get(i)).equals(name)) {
                return scope.get(i);
            }
        }
        return -1;
    }

    /** A signal in scope that is not hidden, at least of this number; -1 if there is none. */
    private int some(int least) {
        List<Integer> found = new ArrayList<>();
        for (String name : POOL) {
            int signal = visible(name);
            if (signal >= least && signal != -1) {
                found.add(signal);
            }
        }
        return found.isEmpty() ? -1 : found.get(random.nextInt(found.size()));
    }

    /** Knotted programs above all test and emit their local signals. */
    private int local() {
        int signal = knotted && !scope.isEmpty() && random.nextInt(4) != 0
                ? scope.get(scope.size() - 1 - random.nextInt(Math.min(2, scope.size()))) : -1;
        return signal >= inputs && visible(names.get(signal)) == signal ? signal : -1;
    }

    private Kernel.Test test(int depth) {
        int pick = depth == 0 ? 0 : random.nextInt(7);
        if (pick >= 4 || pick == 0) {
            int signal = local();
            signal = signal == -1 ? some(0) : signal;
            return new Kernel.Test(0, signal, names.get(signal), null, null);
        }
        return new Kernel.Test(pick, -1, null, test(depth - 1), pick == 1 ? null : test(depth - 1));
    }

    private Statement statement(int depth, int nested) {
        left--;
        if (depth == 0 || left <= 0) {
            return small();
        }
        if (knotted) {
            return knottedStatement(depth, nested);
        }
        int pick = random.nextInt(22);
        if (pick <= 2) {
            return small();
        }
        if (pick <= 6) {
            return two(";", depth, nested);
        }
        if (pick <= 10) {
            return two("||", depth, nested);
        }
        if (pick <= 12) {
            return nested < locals ? signal(depth, nested) : small();
        }
        if (pick <= 14) {
            return trap(depth, nested);
        }
        if (pick == 15) {
            Statement made = new Statement("loop");
            Statement inner = statement(depth - 1, nested);
            made.first = inner;
            if (random.nextInt(3) != 0) {
                made.first = new Statement(";");
                made.first.first = random.nextBoolean() ? inner : new Statement("pause");
                made.first.second = made.first.first == inner ? new Statement("pause") : inner;
            }
            return made;
        }
        if (some(0) == -1) {
            return small();
        }
        String[] words = {"present", "present", "suspend", "loop each", "every", random.nextBoolean() ? "abort" : "weak abort"};
        Statement made = new Statement(words[pick - 16]);
        made.test = test(2);
        if (made.word.equals("present")) {
            int kept = random.nextInt(3);
            made.first = kept == 0 ? null : statement(depth - 1, nested);
            made.second = kept == 1 ? null : statement(depth - 1, nested);
        } else {
            made.first = statement(depth - 1, nested);
        }
        return made;
    }

    /** A loop around local signals, or the other way round, at the outside of all. */
    private Statement knot() {
        Statement made = new Statement("loop");
        made.first = new Statement(random.nextBoolean() ? ";" : "||");
        made.first.first = signal(7, 0);
        made.first.second = new Statement("pause");
        return made;
    }

    private Statement knottedStatement(int depth, int nested) {
        int pick = random.nextInt(20);
        if (pick <= 3) {
            return two(";", depth, nested);
        }
        if (pick <= 7) {
            return two("||", depth, nested);
        }
        if (pick <= 9) {
            return nested < locals ? signal(depth, nested) : small();
        }
        if (pick <= 11) {
            return trap(depth, nested);
        }
        Statement made = new Statement(pick <= 14 ? "loop" : pick == 15 ? "suspend" : "present");
        if (pick <= 14) {
            made.first = new Statement(";");
            made.first.first = statement(depth - 1, nested);
            made.first.second = random.nextInt(4) == 0 ? statement(depth - 1, nested) : new Statement("pause");
            return made;
        }
        made.test = test(random.nextInt(2));
        made.first = statement(depth - 1, nested);
        made.second = pick <= 17 ? null : statement(depth - 1, nested);
        return made;
    }

    private Statement two(String word, int depth, int nested) {
        Statement made = new Statement(word);
        made.first = statement(depth - 1, nested);
        made.second = statement(depth - 1, nested);
        return made;
    }

    private Statement signal(int depth, int nested) {
        Statement made = new Statement("signal");
        int before = scope.size();
        List<String> pool = new ArrayList<>(List.of(POOL));
        int many = random.nextInt(4) == 0 ? 2 : 1;
        for (int i = 0; i < many; i++) {
            made.names.add(pool.remove(random.nextInt(pool.size())));
            scope.add(names.size());
            names.add(made.names.get(i));
        }
        made.signal = names.size() - many;
        made.first = statement(depth - 1, nested + many);
        while (scope.size() > before) {
            scope.remove(scope.size() - 1);
        }
        return made;
    }

    private Statement trap(int depth, int nested) {
        Statement made = new Statement("trap");
        made.name = TRAPS[random.nextInt(TRAPS.length)];
        made.trap = new Object();
        trapScope.add(made.trap);
        trapNames.add(made.name);
        made.first = statement(depth - 1, nested);
        trapScope.remove(trapScope.size() - 1);
        trapNames.remove(trapNames.size() - 1);
        return made;
    }

    private Statement small() {
        int pick = random.nextInt(14);
        int signal = local();
        signal = signal == -1 ? some(inputs) : signal;
        if (pick <= 4 && signal != -1) {
            Statement made = new Statement(pick == 0 ? "sustain" : "emit");
            made.signal = signal;
            made.name = names.get(signal);
            return made;
        }
        if (pick == 5 && some(0) != -1) {
            Statement made = new Statement("await");
            made.test = test(2);
            return made;
        }
        if (pick <= 7 && !trapNames.isEmpty()) {
            Statement made = new Statement("exit");
            made.name = trapNames.get(random.nextInt(trapNames.size()));
            made.trap = trapScope.get(trapNames.lastIndexOf(made.name));
            return made;
        }
        return new Statement(pick == 8 ? "halt" : pick == 9 ? "nothing" : "pause");
    }

    // ---- printing

    private void gap() {
        int many = random.nextInt(3) == 0 ? random.nextInt(3) : 0;
        for (int i = 0; i < many; i++) {
            switch (random.nextInt(5)) {
                case 0:
                    text.append('\n');
                    line++;
                    break;
                case 1:
                    text.append("% a; || % word\n");
                    line++;
                    break;
                case 2:
                    text.append('\t');
                    break;
                default:
                    text.append(' ');
                    break;
            }
        }
    }

    private static boolean inWord(char c) {
        return Character.isLetterOrDigit(c) || c == '_';
    }

    /** Prints a token and tells its line. */
    private int token(String token) {
        gap();
        int last = text.length() - 1;
        if (last >= 0 && inWord(text.charAt(last)) && inWord(token.charAt(0))) {
            text.append(' ');
        }
        text.append(token);
        return line;
    }

    private void printList(String word, int from, int to) {
        if (from == to) {
            return;
        }
        token(word);
        printNames(names.subList(from, to));
        token(";");
    }

    private void printNames(List<String> list) {
        for (int i = 0; i < list.size(); i++) {
            if (i > 0) {
                token(",");
            }
            token(list.get(i));
        }
    }

    /** binding: 0 both, 1 a row, 2 one statement may stand here without brackets. */
    private void print(Statement at, int binding) {
        boolean row = at.word.equals(";");
        boolean both = at.word.equals("||");
        boolean bracket = (both && binding > 0) || (row && binding > 1) || random.nextInt(12) == 0;
        if (bracket) {
            token("(");
        }
        if (row || both) {
            print(at.first, row ? 1 : 0);
            token(at.word);
            print(at.second, row ? 2 : 1);
            at.line = at.first.line;
        } else {
            printWords(at);
        }
        if (bracket) {
            token(")");
        }
    }

    private void printWords(Statement at) {
        String[] words = at.word.split(" ");
        at.line = token(words[0]);
        if (at.word.equals("weak abort")) {
            token("abort");
        }
        switch (at.word) {
            case "emit":
            case "sustain":
            case "exit":
                token(at.name);
                return;
            case "await":
                printTest(at.test, 0);
                return;
            case "nothing":
            case "pause":
            case "halt":
                return;
            case "present":
                printTest(at.test, 0);
                printPart("then", at.first);
                printPart("else", at.second);
                break;
            case "every":
                printTest(at.test, 0);
                printPart("do", at.first);
                break;
            case "trap":
                token(at.name);
                printPart("in", at.first);
                break;
            case "signal":
                printNames(at.names);
                printPart("in", at.first);
                break;
            case "loop":
                print(at.first, 0);
                break;
            default:
                print(at.first, 0);
                token(at.word.equals("loop each") ? "each" : "when");
                printTest(at.test, 0);
                break;
        }
        token("end");
    }

    private void printPart(String word, Statement part) {
        if (part != null) {
            token(word);
            print(part, 0);
        }
    }

    private void printTest(Kernel.Test at, int binding) {
        boolean bracket = (at.kind == 3 && binding > 0) || (at.kind == 2 && binding > 1) || random.nextInt(10) == 0;
        if (bracket) {
            token("(");
        }
        switch (at.kind) {
            case 0:
                token(at.name);
                break;
            case 1:
                token("not");
                printTest(at.a, 2);
                break;
            default:
                printTest(at.a, at.kind == 3 ? 0 : 1);
                token(at.kind == 3 ? "or" : "and");
                printTest(at.b, at.kind == 3 ? 1 : 2);
                break;
        }
        if (bracket) {
            token(")");
        }
    }

    // ---- what statements stand for

    private Kernel.Node plain(Statement at) {
        int line = at.line;
        switch (at.word) {
            case "nothing":
                return leaf(Kernel.NOTHING, line);
            case "pause":
                return leaf(Kernel.PAUSE, line);
            case "halt":
                return loop(leaf(Kernel.PAUSE, line), line);
            case "emit":
                return emit(at.signal, line);
            case "sustain":
                return loop(row(emit(at.signal, line), leaf(Kernel.PAUSE, line), line), line);
            case "exit":
                return exit(at.trap, line);
            case "await":
                return await(at.test, line);
            case "present":
                return tested(Kernel.PRESENT, at.test, part(at.first, line), part(at.second, line), line);
            case "suspend":
                return tested(Kernel.SUSPEND, at.test, plain(at.first), null, line);
            case "loop":
                return loop(plain(at.first), line);
            case "trap":
                return trap(at.trap, plain(at.first), line);
            case "signal":
                return locals(at);
            case ";":
                return row(plain(at.first), plain(at.second), line);
            case "||":
                return new Kernel.Node(Kernel.BOTH, line, plain(at.first), plain(at.second));
            case "abort":
                return abort(tested(Kernel.SUSPEND, at.test, plain(at.first), null, line), at.test, line);
            case "weak abort":
                return abort(plain(at.first), at.test, line);
            case "loop each":
                return loopEach(plain(at.first), at.test, line);
            case "every":
                return row(await(at.test, line), loopEach(plain(at.first), at.test, line), line);
            default:
                throw new IllegalStateException(at.word);
        }
    }

    private Kernel.Node part(Statement at, int line) {
        return at == null ? leaf(Kernel.NOTHING, line) : plain(at);
    }

    private static Kernel.Node leaf(int kind, int line) {
        return new Kernel.Node(kind, line, null, null);
    }

    private static Kernel.Node emit(int signal, int line) {
        Kernel.Node made = leaf(Kernel.EMIT, line);
        made.signal = signal;
        return made;
    }

    private static Kernel.Node exit(Object trap, int line) {
        Kernel.Node made = leaf(Kernel.EXIT, line);
        made.trap = trap;
        return made;
    }

    private static Kernel.Node loop(Kernel.Node body, int line) {
        return new Kernel.Node(Kernel.LOOP, line, body, null);
    }

    private static Kernel.Node row(Kernel.Node a, Kernel.Node b, int line) {
        return new Kernel.Node(Kernel.SEQUENCE, line, a, b);
    }

    private static Kernel.Node tested(int kind, Kernel.Test test, Kernel.Node a, Kernel.Node b, int line) {
        Kernel.Node made = new Kernel.Node(kind, line, a, b);
        made.test = test;
        return made;
    }

    private static Kernel.Node trap(Object trap, Kernel.Node body, int line) {
        Kernel.Node made = new Kernel.Node(Kernel.TRAP, line, body, null);
        made.trap = trap;
        return made;
    }

    private static Kernel.Node watch(Object trap, Kernel.Test test, int line) {
        return loop(row(leaf(Kernel.PAUSE, line),
                tested(Kernel.PRESENT, test, exit(trap, line), leaf(Kernel.NOTHING, line), line), line), line);
    }

    private static Kernel.Node await(Kernel.Test test, int line) {
        Object trap = new Object();
        return trap(trap, watch(trap, test, line), line);
    }

    private static Kernel.Node abort(Kernel.Node run, Kernel.Test test, int line) {
        Object trap = new Object();
        return trap(trap, new Kernel.Node(Kernel.BOTH, line, row(run, exit(trap, line), line),
                watch(trap, test, line)), line);
    }

    private static Kernel.Node loopEach(Kernel.Node body, Kernel.Test test, int line) {
        Kernel.Node stays = row(body, loop(leaf(Kernel.PAUSE, line), line), line);
        return loop(abort(tested(Kernel.SUSPEND, test, stays, null, line), test, line), line);
    }

    private Kernel.Node locals(Statement at) {
        Kernel.Node made = plain(at.first);
        for (int i = at.names.size() - 1; i >= 0; i--) {
            made = new Kernel.Node(Kernel.LOCAL, at.line, made, null);
            made.signal = at.signal + i;
        }
        return made;
    }
}

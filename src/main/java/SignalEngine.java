import java.util.ArrayList;
import java.util.Arrays;

/**
 * Reads reactive programs, runs them instant by instant, explores all their states and lays them
 * out as a net of multiplexers.
 */
public final class SignalEngine {
    public static final int NONE = -1;

    private static final int TAPE_LIMIT = 32768;
    private static final int FED_AT_ONCE = 20;

    private static final int NOTHING = 0;
    private static final int PAUSE = 1;
    private static final int EMIT = 2;
    private static final int PRESENT = 3;
    private static final int SUSPEND = 4;
    private static final int SEQUENCE = 5;
    private static final int LOOP = 6;
    private static final int BOTH = 7;
    private static final int TRAP = 8;
    private static final int EXIT = 9;
    private static final int LOCAL = 10;

    private static final int SIGNAL = 0;
    private static final int NOT = 1;
    private static final int AND = 2;
    private static final int OR = 3;

    private static final int FALSE = 0;
    private static final int TRUE = 1;
    private static final int UNKNOWN = 2;

    private static final int GOES_ON = 0;
    private static final int ENDS = 1;
    private static final int NO_REACTION = 2;

    private static final int FIRST_STATE = 256;
    private static final int END_STATE = 257;

    private byte[] tape = new byte[4 * FED_AT_ONCE];
    private int length;
    private boolean fed;

    private Program program;
    private Reactor reactor;
    private boolean started;
    private boolean ended;
    private boolean[] held;
    private int[] shown;
    private int reactions;

    private Atlas atlas;
    private Net net;
    private boolean explored;
    private boolean laid;

    /** An engine with an empty tape and no program. */
    public SignalEngine() {
    }

    // ---- the tape and what is read

    /** Appends twenty bytes to the tape and answers its length, or NONE when it would be too long. */
    public int feed(int a, int b, int c, int d, int e) {
        if (length + FED_AT_ONCE > TAPE_LIMIT) {
            return NONE;
        }
        if (length + FED_AT_ONCE > tape.length) {
            tape = Arrays.copyOf(tape, 2 * tape.length);
        }
        append(a);
        append(b);
        append(c);
        append(d);
        append(e);
        fed = true;
        return length;
    }

    private void append(int word) {
        for (int shift = 24; shift >= 0; shift -= 8) {
            tape[length] = (byte) (word >>> shift);
            length++;
        }
    }

    /** Keeps the first n of the twenty bytes fed last and answers the length of the tape, or NONE. */
    public int end(int n) {
        if (!fed || n < 0 || n > FED_AT_ONCE) {
            return NONE;
        }
        fed = false;
        length -= FED_AT_ONCE - n;
        return length;
    }

    /** Reads the tape as a program and answers 0, or the fault + 8 * its line. */
    public int read() {
        byte[] text = Arrays.copyOf(tape, length);
        length = 0;
        fed = false;
        forget();
        Parser parser = new Parser(text);
        int fault = parser.parse();
        if (fault == 0) {
            fault = parser.judge();
        }
        if (fault == 0) {
            program = new Program(parser);
            reactor = new Reactor(program);
            held = new boolean[program.pauses];
            shown = new int[program.inputs + program.outputs];
        }
        return fault;
    }

    private void forget() {
        program = null;
        reactor = null;
        held = null;
        shown = null;
        started = false;
        ended = false;
        reactions = 0;
        explored = false;
        laid = false;
    }

    /** What there is to know of node k, by the number of what is asked; NONE where there is nothing. */
    public int node(int k, int what) {
        if (program == null || k < 0 || k >= program.kind.length) {
            return NONE;
        }
        switch (what) {
            case 0:
                return program.kind[k];
            case 1:
                return program.first[k];
            case 2:
                return program.second[k];
            case 3:
                return program.number[k];
            case 4:
                return program.codes[k];
            case 5:
                return program.line[k];
            case 6:
                return program.weight[k];
            default:
                return NONE;
        }
    }

    /** What there is to know of piece k, by the number of what is asked; NONE where there is nothing. */
    public int piece(int k, int what) {
        if (program == null || k < 0 || k >= program.pieces.made) {
            return NONE;
        }
        switch (what) {
            case 0:
                return program.pieces.kind[k];
            case 1:
                return program.pieces.first[k];
            case 2:
                return program.pieces.second[k];
            default:
                return NONE;
        }
    }

    /** The i-th character of the name of signal k, or NONE. */
    public int letter(int k, int i) {
        if (program == null) {
            return NONE;
        }
        return program.names.character(k, i);
    }

    // ---- instants

    /** Puts the program at its start and answers how many reactions there were. */
    public int restart() throws IllegalStateException {
        if (program == null) {
            throw new IllegalStateException();
        }
        int were = reactions;
        stand(FIRST_STATE);
        return were;
    }

    private void stand(int state) {
        started = state != FIRST_STATE;
        ended = false;
        reactions = 0;
        Arrays.fill(shown, 0);
        for (int k = 0; k < held.length; k++) {
            held[k] = started && ((state >>> k) & 1) != 0;
        }
    }

    /** Runs one instant: 0 it goes on, 1 it has ended, 2 there is no reaction. */
    public int instant(int inputs) throws IllegalStateException, IllegalArgumentException {
        if (program == null || ended) {
            throw new IllegalStateException();
        }
        if (inputs >>> program.inputs != 0) {
            throw new IllegalArgumentException();
        }
        int answer = reactor.react(inputs, started, held);
        System.arraycopy(reactor.known, 0, shown, 0, shown.length);
        if (answer != NO_REACTION) {
            started = true;
            ended = answer == ENDS;
            reactions++;
            System.arraycopy(reactor.chosen, 0, held, 0, held.length);
        }
        return answer;
    }

    /** The status of input or output k in the latest instant. */
    public int status(int k) {
        return shown == null || k < 0 || k >= shown.length ? 0 : shown[k];
    }

    /** Whether pause k is selected. */
    public boolean selected(int k) {
        return held != null && !ended && k >= 0 && k < held.length && held[k];
    }

    /** Goes to a reachable state. */
    public void go(int state) throws IllegalStateException, IllegalArgumentException {
        if (!explored) {
            throw new IllegalStateException();
        }
        if (!atlas.reaches(state)) {
            throw new IllegalArgumentException();
        }
        stand(state);
    }

    // ---- exploring

    /** Finds all reachable states and answers how many there are, or NONE for a program too large. */
    public int explore() throws IllegalStateException {
        if (program == null) {
            throw new IllegalStateException();
        }
        if (!program.canBeExplored()) {
            return NONE;
        }
        if (!explored) {
            if (atlas == null) {
                atlas = new Atlas();
            }
            atlas.survey(program, reactor);
            explored = true;
        }
        return atlas.reached;
    }

    /** The least number of instants that lead to a state, or NONE. */
    public int distance(int state) {
        return explored && atlas.reaches(state) ? atlas.far[state] : NONE;
    }

    /** The inputs of instant i on the path to a state, or NONE. */
    public int path(int state, int i) {
        return explored && atlas.reaches(state) ? atlas.inputsOnWay(state, i) : NONE;
    }

    /** The state to which a state reacts on inputs, 257 for the end, or NONE. */
    public int next(int state, int inputs) throws IllegalStateException {
        if (!explored) {
            throw new IllegalStateException();
        }
        return atlas.has(state, inputs) ? atlas.follows[Atlas.cell(state, inputs)] : NONE;
    }

    /** The outputs present when a state reacts on inputs, or NONE. */
    public int shows(int state, int inputs) throws IllegalStateException {
        if (!explored) {
            throw new IllegalStateException();
        }
        return atlas.has(state, inputs) ? atlas.emits[Atlas.cell(state, inputs)] : NONE;
    }

    /** Where the nearest instant without a reaction is: its distance, state or inputs, or NONE. */
    public int doubt(int what) {
        if (!explored || atlas.doubtState == NONE) {
            return NONE;
        }
        switch (what) {
            case 0:
                return atlas.far[atlas.doubtState];
            case 1:
                return atlas.doubtState;
            case 2:
                return atlas.doubtInputs;
            default:
                return NONE;
        }
    }

    /** Whether output k is present never (0), now and then (1) or always (2); or NONE. */
    public int ever(int k) {
        int times = together(k, k);
        if (times == NONE || times == 0) {
            return times;
        }
        return times == atlas.reactions ? 2 : 1;
    }

    /** In how many reactions outputs j and k are present together, or NONE. */
    public int together(int j, int k) {
        if (!explored || atlas.reactions == 0 || !program.hasOutput(j) || !program.hasOutput(k)) {
            return NONE;
        }
        return atlas.reactionsWith((1 << j) | (1 << k));
    }

    /** How many classes of states there are that are not alike. */
    public int classes() throws IllegalStateException {
        if (!explored) {
            throw new IllegalStateException();
        }
        return atlas.groups;
    }

    /** The least reachable state that is alike to a state, or NONE. */
    public int alike(int state) {
        return explored && atlas.reaches(state) ? atlas.group[state] : NONE;
    }

    // ---- the net

    /** Lays out the net and answers how many multiplexers it has. */
    public int lay() throws IllegalStateException {
        if (!explored) {
            throw new IllegalStateException();
        }
        if (!laid) {
            if (net == null) {
                net = new Net();
            }
            net.build(program, atlas);
            laid = true;
        }
        return net.multiplexers();
    }

    /** The truths of all functions of the net on a choice, as bits. */
    public long pass(int choice) throws IllegalStateException, IllegalArgumentException {
        if (!laid) {
            throw new IllegalStateException();
        }
        if (choice < 0 || choice >= Net.CHOICES) {
            throw new IllegalArgumentException();
        }
        return net.truthsOn(choice);
    }

    /** How many multiplexers there are at bit 12 - v of choices. */
    public int level(int v) {
        return laid && v >= 0 && v < Net.BITS ? net.atBit[Net.BITS - 1 - v] : 0;
    }

    /** How many multiplexers function i has, or NONE. */
    public int size(int i) {
        return laid && i >= 0 && i < net.functions ? net.multiplexersOf(i) : NONE;
    }

    /** One of sixteen numbers that tell of the engine, or NONE. */
    public int count(int what) {
        if (what < 0 || what > 15) {
            return NONE;
        }
        if (what == 9) {
            return length;
        }
        if (program == null) {
            return 0;
        }
        return what < 9 ? program.figure(what) : figure(what);
    }

    private int figure(int what) {
        switch (what) {
            case 10:
                return reactions;
            case 11:
                return ended ? 2 : 1;
            case 12:
                return heldPauses();
            case 13:
                return explored ? atlas.reached : 0;
            case 14:
                return explored ? atlas.steady : 0;
            default:
                return laid ? net.multiplexers() : 0;
        }
    }

    private int heldPauses() {
        int sum = 0;
        for (int k = 0; k < held.length; k++) {
            if (selected(k)) {
                sum++;
            }
        }
        return sum;
    }

    // ---- tokens and names

    /** What a text consists of; starts tells which tokens may be the first of a statement. */
    private enum Token {
        IN("in", false), OUT("out", false), NOTHING("nothing", true), PAUSE("pause", true),
        HALT("halt", true), EMIT("emit", true), SUSTAIN("sustain", true), EXIT("exit", true),
        PRESENT("present", true), THEN("then", false), ELSE("else", false), END("end", false),
        SUSPEND("suspend", true), WHEN("when", false), LOOP("loop", true), EACH("each", false),
        TRAP("trap", true), SIGNAL("signal", true), NOT("not", false), AND("and", false),
        OR("or", false), AWAIT("await", true), ABORT("abort", true), WEAK("weak", true),
        EVERY("every", true), DO("do", false), SEMICOLON(";", false), COMMA(",", false),
        OPEN("(", true), CLOSE(")", false), BARS("||", false), NAME("", false), STOP("", false);

        private final String text;
        private final boolean starts;

        Token(String text, boolean starts) {
            this.text = text;
            this.starts = starts;
        }
    }

    /** Goes through a text token by token and keeps the fault that ends the reading. */
    private static final class Lexer {
        private static final Token[] TOKENS = Token.values();
        private static final int LONGEST_WORD = 31;

        private final byte[] text;
        private Token token = Token.STOP;
        private int from;
        private int to;
        private int line = 1;
        private int fault;

        Lexer(byte[] text) {
            this.text = text;
        }

        /** Ends the reading: the throw is caught where the parser began. */
        void refuse(int kind) {
            fault = kind + 8 * line;
            throw new IllegalArgumentException();
        }

        void require(boolean right) {
            if (!right) {
                refuse(1);
            }
        }

        /** Bytes that no text may have count before all other faults, so they are sought first. */
        void open() {
            for (int i = 0; i < text.length; i++) {
                int c = text[i];
                require(c == 9 || c == 10 || (c >= 32 && c <= 126));
                if (c == 10) {
                    line++;
                }
            }
            line = 1;
            advance();
        }

        void advance() {
            skipGaps();
            from = to;
            if (from >= text.length) {
                token = Token.STOP;
                return;
            }
            while (to < text.length && isInWord(text[to])) {
                to++;
            }
            boolean word = to > from;
            if (!word) {
                to += startsBars() ? 2 : 1;
            }
            token = known(word && isName() ? Token.NAME : Token.STOP);
            if (token == Token.STOP) {
                refuse(1);
            }
        }

        private void skipGaps() {
            boolean comment = false;
            while (to < text.length) {
                int c = text[to];
                if (c == 10) {
                    line++;
                    comment = false;
                } else if (c == '%') {
                    comment = true;
                } else if (!comment && c != 9 && c != 32) {
                    return;
                }
                to++;
            }
        }

        private static boolean isInWord(int c) {
            return (c >= 'a' && c <= 'z') || (c >= 'A' && c <= 'Z') || (c >= '0' && c <= '9') || c == '_';
        }

        /** Whether a run of characters of words is a word: its first one has to be a letter. */
        private boolean isName() {
            return text[from] > '9' && text[from] != '_' && to - from <= LONGEST_WORD;
        }

        private boolean startsBars() {
            return text[from] == '|' && from + 1 < text.length && text[from + 1] == '|';
        }

        /** The token that reads as the text here does, or another one if there is none. */
        private Token known(Token other) {
            for (int t = 0; t < TOKENS.length; t++) {
                String due = TOKENS[t].text;
                int same = 0;
                while (same < due.length() && from + same < to && due.charAt(same) == text[from + same]) {
                    same++;
                }
                if (same == due.length() && from + same == to) {
                    return TOKENS[t];
                }
            }
            return other;
        }
    }

    /** Names in the order in which the text brings them in, and which of them hold at this place. */
    private static final class Names {
        private final byte[] text;
        private int[] from = new int[4];
        private int[] extent = new int[4];
        private int[] scope = new int[4];
        private int made;
        private int inScope;

        Names(byte[] text) {
            this.text = text;
        }

        int bring(Lexer lexer) {
            if (made == from.length) {
                from = Arrays.copyOf(from, 2 * made);
                extent = Arrays.copyOf(extent, 2 * made);
                scope = Arrays.copyOf(scope, 2 * made);
            }
            from[made] = lexer.from;
            extent[made] = lexer.to - lexer.from;
            scope[inScope] = made;
            inScope++;
            made++;
            return made - 1;
        }

        /** The innermost name in scope that reads as the token does, or NONE. */
        int find(Lexer lexer) {
            for (int i = inScope - 1; i >= 0; i--) {
                if (reads(scope[i], lexer)) {
                    return scope[i];
                }
            }
            return NONE;
        }

        boolean hasSince(int start, Lexer lexer) {
            for (int i = start; i < made; i++) {
                if (reads(i, lexer)) {
                    return true;
                }
            }
            return false;
        }

        private boolean reads(int name, Lexer lexer) {
            if (extent[name] != lexer.to - lexer.from) {
                return false;
            }
            for (int i = 0; i < extent[name]; i++) {
                if (text[from[name] + i] != text[lexer.from + i]) {
                    return false;
                }
            }
            return true;
        }

        int character(int name, int i) {
            if (name < 0 || name >= made || i < 0 || i >= extent[name]) {
                return NONE;
            }
            return text[from[name] + i];
        }
    }

    // ---- reading

    /** Reads a text by its grammar and drafts the tree that it stands for. */
    private static final class Parser {
        private static final int OPEN_LIMIT = 24;

        private final Lexer lexer;
        private final Names signals;
        private final Names traps;
        private final Draft draft = new Draft();
        private int inputs;
        private int outputs;
        private int open;

        Parser(byte[] text) {
            lexer = new Lexer(text);
            signals = new Names(text);
            traps = new Names(text);
        }

        /** The first fault of the text itself, or 0. */
        int parse() {
            try {
                takeProgram();
            } catch (IllegalArgumentException refused) {
                return lexer.fault;
            }
            return 0;
        }

        /** The fault of a tree whose text is well formed, or 0. */
        int judge() {
            draft.settle(traps.made);
            int line = draft.lineOfEmptyLoop();
            if (line != NONE) {
                return 4 + 8 * line;
            }
            boolean large = inputs > 31 || outputs > 31 || signals.made > 400 || draft.isLarge();
            return large ? 6 : 0;
        }

        private void takeProgram() {
            lexer.open();
            if (lexer.token == Token.IN) {
                lexer.advance();
                takeNames(0);
                take(Token.SEMICOLON);
            }
            inputs = signals.made;
            if (lexer.token == Token.OUT) {
                lexer.advance();
                takeNames(0);
                take(Token.SEMICOLON);
            }
            outputs = signals.made - inputs;
            takeBody();
            lexer.require(lexer.token == Token.STOP);
        }

        private void take(Token due) {
            lexer.require(lexer.token == due);
            lexer.advance();
        }

        private boolean skip(Token maybe) {
            boolean there = lexer.token == maybe;
            if (there) {
                lexer.advance();
            }
            return there;
        }

        /** Names of one list, no two of which may be the same; it began with signal start. */
        private void takeNames(int start) {
            boolean more = true;
            for (int i = 0; more && i <= lexer.text.length; i++) {
                lexer.require(lexer.token == Token.NAME);
                if (signals.hasSince(start, lexer)) {
                    lexer.refuse(3);
                }
                signals.bring(lexer);
                lexer.advance();
                more = skip(Token.COMMA);
            }
        }

        private int takeUse(Names names, int least) {
            lexer.require(lexer.token == Token.NAME);
            int found = names.find(lexer);
            if (found < least) {
                lexer.refuse(2);
            }
            lexer.advance();
            return found;
        }

        private void enter() {
            if (open >= OPEN_LIMIT) {
                lexer.refuse(5);
            }
            open++;
        }

        private Node takeBody() {
            Node made = takeRow();
            for (int i = 0; i < lexer.text.length && skip(Token.BARS); i++) {
                made = draft.join(BOTH, made, takeRow(), made.line);
            }
            return made;
        }

        private Node takeRow() {
            Node made = takeStatement();
            for (int i = 0; i < lexer.text.length && skip(Token.SEMICOLON); i++) {
                made = draft.join(SEQUENCE, made, takeStatement(), made.line);
            }
            return made;
        }

        private Node takeStatement() {
            Token word = lexer.token;
            int line = lexer.line;
            lexer.require(word.starts);
            enter();
            lexer.advance();
            Node made = takeRest(word, line);
            open--;
            return made;
        }

        private Node takeRest(Token word, int line) {
            switch (word) {
                case NOTHING:
                    return draft.leaf(NOTHING, NONE, line);
                case PAUSE:
                    return draft.leaf(PAUSE, NONE, line);
                case HALT:
                    return draft.halt(line);
                case EMIT:
                    return draft.leaf(EMIT, takeUse(signals, inputs), line);
                case SUSTAIN:
                    return draft.sustain(takeUse(signals, inputs), line);
                case EXIT:
                    return draft.exit(takeUse(traps, 0), line);
                case AWAIT:
                    return draft.await(takeEither(), line);
                case PRESENT:
                    return closedBy(Token.END, takePresent(line));
                case LOOP:
                    return closedBy(Token.END, takeLoop(line));
                case TRAP:
                    return closedBy(Token.END, takeTrap(line));
                case SIGNAL:
                    return closedBy(Token.END, takeLocals(line));
                case EVERY:
                    return closedBy(Token.END, takeEvery(line));
                case SUSPEND:
                case ABORT:
                case WEAK:
                    return closedBy(Token.END, takeGuarded(word, line));
                default:
                    return closedBy(Token.CLOSE, takeBody());
            }
        }

        private Node closedBy(Token due, Node made) {
            take(due);
            return made;
        }

        private Node takePresent(int line) {
            int test = takeEither();
            lexer.require(lexer.token == Token.THEN || lexer.token == Token.ELSE);
            Node yes = skip(Token.THEN) ? takeBody() : draft.leaf(NOTHING, NONE, line);
            Node no = skip(Token.ELSE) ? takeBody() : draft.leaf(NOTHING, NONE, line);
            return draft.tested(PRESENT, test, yes, no, line);
        }

        private Node takeLoop(int line) {
            Node body = takeBody();
            return skip(Token.EACH) ? draft.loopEach(body, takeEither(), line)
                    : draft.join(LOOP, body, null, line);
        }

        private Node takeTrap(int line) {
            lexer.require(lexer.token == Token.NAME);
            int before = traps.inScope;
            int name = traps.bring(lexer);
            lexer.advance();
            take(Token.IN);
            Node body = takeBody();
            traps.inScope = before;
            return draft.trap(name, body, line);
        }

        private Node takeLocals(int line) {
            int before = signals.inScope;
            int start = signals.made;
            takeNames(start);
            int stop = signals.made;
            take(Token.IN);
            Node made = takeBody();
            signals.inScope = before;
            for (int signal = stop - 1; signal >= start; signal--) {
                made = draft.join(LOCAL, made, null, line);
                made.number = signal;
            }
            return made;
        }

        private Node takeEvery(int line) {
            int test = takeEither();
            take(Token.DO);
            Node loop = draft.loopEach(takeBody(), test, line);
            return draft.join(SEQUENCE, draft.await(test, line), loop, line);
        }

        private Node takeGuarded(Token word, int line) {
            if (word == Token.WEAK) {
                take(Token.ABORT);
            }
            Node body = takeBody();
            take(Token.WHEN);
            int test = takeEither();
            if (word == Token.WEAK) {
                return draft.abort(body, draft.watch(test, line), line);
            }
            Node suspend = draft.tested(SUSPEND, test, body, null, line);
            return word == Token.SUSPEND ? suspend
                    : draft.abort(suspend, draft.watch(test, line), line);
        }

        private int takeEither() {
            int made = takeClause();
            for (int i = 0; i < lexer.text.length && skip(Token.OR); i++) {
                made = draft.pieces.add(OR, made, takeClause());
            }
            return made;
        }

        private int takeClause() {
            int made = takePart();
            for (int i = 0; i < lexer.text.length && skip(Token.AND); i++) {
                made = draft.pieces.add(AND, made, takePart());
            }
            return made;
        }

        private int takePart() {
            if (lexer.token != Token.NOT && lexer.token != Token.OPEN) {
                return draft.pieces.add(SIGNAL, takeUse(signals, 0), NONE);
            }
            enter();
            int made;
            if (skip(Token.NOT)) {
                made = draft.pieces.add(NOT, takePart(), NONE);
            } else {
                lexer.advance();
                made = takeEither();
                take(Token.CLOSE);
            }
            open--;
            return made;
        }
    }

    /** A node of a tree that is being drafted; what stands below the test is found out at the end. */
    private static final class Node {
        private final int kind;
        private final int line;
        private final Node first;
        private final Node second;
        private int number = NONE;
        private int trap = NONE;
        private int test = NONE;
        private int extent;
        private int place;
        private int parent = NONE;
        private int traps;
        private int weight = 1;
        private int codes;

        Node(int kind, int line, Node first, Node second) {
            this.kind = kind;
            this.line = line;
            this.first = first;
            this.second = second;
        }
    }

    /** The pieces of tests, as rows. */
    private static final class Pieces {
        private int[] kind;
        private int[] first;
        private int[] second;
        private int[] extent;
        private int[] place;
        private int made;

        Pieces(int room) {
            kind = new int[room];
            first = new int[room];
            second = new int[room];
            extent = new int[room];
            place = new int[room];
        }

        /** Adds a piece behind those within it: a is its signal or its first piece. */
        int add(int ofKind, int a, int b) {
            if (made == kind.length) {
                widen(2 * made + 4);
            }
            kind[made] = ofKind;
            first[made] = a;
            second[made] = b;
            extent[made] = 1;
            if (ofKind != SIGNAL) {
                extent[made] += extent[a];
            }
            if (b != NONE) {
                extent[made] += extent[b];
            }
            made++;
            return made - 1;
        }

        private void widen(int room) {
            kind = Arrays.copyOf(kind, room);
            first = Arrays.copyOf(first, room);
            second = Arrays.copyOf(second, room);
            extent = Arrays.copyOf(extent, room);
            place = Arrays.copyOf(place, room);
        }

        /** Copies a drafted test so that each piece stands ahead of those within it. */
        int copyOf(Pieces drafted, int root) {
            int start = made;
            drafted.place[root] = start;
            for (int i = root; i > root - drafted.extent[root]; i--) {
                copyPiece(drafted, i);
            }
            made += drafted.extent[root];
            return start;
        }

        private void copyPiece(Pieces drafted, int i) {
            int at = drafted.place[i];
            int a = drafted.first[i];
            int b = drafted.second[i];
            kind[at] = drafted.kind[i];
            extent[at] = drafted.extent[i];
            first[at] = a;
            second[at] = NONE;
            if (kind[at] != SIGNAL) {
                first[at] = at + 1;
                drafted.place[a] = at + 1;
            }
            if (b != NONE) {
                second[at] = at + 1 + drafted.extent[a];
                drafted.place[b] = second[at];
            }
        }
    }

    /** The tree while it grows: its list has each node behind those within it, so the root is last. */
    private static final class Draft {
        private static final int INNERMOST = 2;

        private final ArrayList<Node> nodes = new ArrayList<>();
        private final Pieces pieces = new Pieces(4);
        private int weights;
        private int pauses;
        private int tests;
        private int deepest;

        Node join(int kind, Node first, Node second, int line) {
            Node made = new Node(kind, line, first, second);
            nodes.add(made);
            return made;
        }

        Node leaf(int kind, int number, int line) {
            Node made = new Node(kind, line, null, null);
            made.number = number;
            nodes.add(made);
            return made;
        }

        Node tested(int kind, int test, Node first, Node second, int line) {
            Node made = join(kind, first, second, line);
            made.test = test;
            return made;
        }

        Node trap(int name, Node body, int line) {
            Node made = join(TRAP, body, null, line);
            made.trap = name;
            return made;
        }

        /** An exit whose code is known only when all traps around it are. */
        Node exit(int name, int line) {
            Node made = join(EXIT, null, null, line);
            made.trap = name;
            return made;
        }

        Node halt(int line) {
            return join(LOOP, leaf(PAUSE, NONE, line), null, line);
        }

        Node sustain(int signal, int line) {
            Node emit = leaf(EMIT, signal, line);
            return join(LOOP, join(SEQUENCE, emit, leaf(PAUSE, NONE, line), line), null, line);
        }

        /** The loop that leaves the trap next around it, which has no name, when the test is true. */
        Node watch(int test, int line) {
            Node pause = leaf(PAUSE, NONE, line);
            Node leave = leaf(EXIT, INNERMOST, line);
            Node look = join(PRESENT, leave, leaf(NOTHING, NONE, line), line);
            look.test = test;
            return join(LOOP, join(SEQUENCE, pause, look, line), null, line);
        }

        Node await(int test, int line) {
            return join(TRAP, watch(test, line), null, line);
        }

        Node abort(Node run, Node watch, int line) {
            Node left = join(SEQUENCE, run, leaf(EXIT, INNERMOST, line), line);
            return join(TRAP, join(BOTH, left, watch, line), null, line);
        }

        Node loopEach(Node body, int test, int line) {
            Node stays = join(SEQUENCE, body, halt(line), line);
            Node suspend = tested(SUSPEND, test, stays, null, line);
            return join(LOOP, abort(suspend, watch(test, line), line), null, line);
        }

        /** Finds out what depends on the whole tree: places, weights and codes. */
        void settle(int namedTraps) {
            for (int i = 0; i < nodes.size(); i++) {
                Node at = nodes.get(i);
                at.extent = 1 + extentOf(at.first) + extentOf(at.second);
            }
            int[] depthOfTrap = new int[namedTraps];
            for (int i = nodes.size() - 1; i >= 0; i--) {
                spread(nodes.get(i), depthOfTrap);
            }
            for (int i = 0; i < nodes.size(); i++) {
                Node at = nodes.get(i);
                at.codes = codesOf(at);
            }
        }

        private static int extentOf(Node node) {
            return node == null ? 0 : node.extent;
        }

        private void spread(Node at, int[] depthOfTrap) {
            weights += at.weight;
            deepest = Math.max(deepest, at.traps);
            if (at.kind == PAUSE) {
                pauses++;
            }
            if (at.test != NONE) {
                tests += pieces.extent[at.test];
            }
            if (at.trap != NONE && at.kind == TRAP) {
                depthOfTrap[at.trap] = at.traps;
            } else if (at.trap != NONE) {
                at.number = at.traps - depthOfTrap[at.trap] + 1;
            }
            if (at.first != null) {
                hang(at.first, at, at.place + 1, at.kind == LOOP ? 1 : 0);
            }
            if (at.second != null) {
                int place = at.place + 1 + extentOf(at.first);
                hang(at.second, at, place, at.kind == SEQUENCE ? 1 : 0);
            }
        }

        private static void hang(Node node, Node parent, int place, int more) {
            node.place = place;
            node.parent = parent.place;
            node.traps = parent.traps + (parent.kind == TRAP ? 1 : 0);
            node.weight = parent.weight + more;
        }

        private static int codesOf(Node at) {
            int a = at.first == null ? 0 : at.first.codes;
            int b = at.second == null ? 0 : at.second.codes;
            switch (at.kind) {
                case NOTHING:
                case EMIT:
                    return 1;
                case PAUSE:
                    return 2;
                case EXIT:
                    return 1 << at.number;
                case SEQUENCE:
                    return (a & 1) == 0 ? a : (a & ~1) | b;
                case BOTH:
                    return greaterOfPairs(a, b);
                case TRAP:
                    return withoutTrap(a);
                default:
                    return a | b;
            }
        }

        /** The line of the first loop whose statement may end at once, or NONE. */
        int lineOfEmptyLoop() {
            Node found = null;
            for (int i = 0; i < nodes.size(); i++) {
                Node at = nodes.get(i);
                boolean empty = at.kind == LOOP && (at.codes & 1) != 0;
                if (empty && (found == null || at.place < found.place)) {
                    found = at;
                }
            }
            return found == null ? NONE : found.line;
        }

        boolean isLarge() {
            return pauses > 200 || tests > 1000 || deepest > 8 || weights > 1200;
        }
    }

    /** Of each pair of codes the greater one, all as bits: one counts if the other side has none above. */
    private static int greaterOfPairs(int a, int b) {
        return (a & -Integer.lowestOneBit(b)) | (b & -Integer.lowestOneBit(a));
    }

    /** The codes around a trap, by those within it: 0 for 2, one less for those above. */
    private static int withoutTrap(int codes) {
        return (codes & 3) | ((codes >>> 2) & 1) | ((codes >>> 1) & ~3);
    }

    // ---- the program

    /** A program without a fault, as rows over its nodes. */
    private static final class Program {
        private final Names names;
        private final int inputs;
        private final int outputs;
        private final int pauses;
        private final int weights;
        private final int deepest;
        private final Pieces pieces;
        private final int[] kind;
        private final int[] first;
        private final int[] second;
        private final int[] parent;
        private final int[] number;
        private final int[] codes;
        private final int[] line;
        private final int[] weight;
        private final int[] pauseFrom;
        private final int[] pauseTo;

        Program(Parser parser) {
            Draft draft = parser.draft;
            int nodes = draft.nodes.size();
            names = parser.signals;
            inputs = parser.inputs;
            outputs = parser.outputs;
            pauses = draft.pauses;
            weights = draft.weights;
            deepest = draft.deepest;
            pieces = new Pieces(draft.tests);
            kind = new int[nodes];
            first = new int[nodes];
            second = new int[nodes];
            parent = new int[nodes];
            number = new int[nodes];
            codes = new int[nodes];
            line = new int[nodes];
            weight = new int[nodes];
            pauseFrom = new int[nodes];
            pauseTo = new int[nodes];
            int[] test = new int[nodes];
            for (int i = 0; i < nodes; i++) {
                Node from = draft.nodes.get(i);
                copy(from);
                test[from.place] = from.test;
            }
            giveNumbers(test, draft.pieces);
            boundPauses();
        }

        private void copy(Node from) {
            int at = from.place;
            kind[at] = from.kind;
            first[at] = from.first == null ? NONE : from.first.place;
            second[at] = from.second == null ? NONE : from.second.place;
            parent[at] = from.parent;
            number[at] = from.number;
            codes[at] = from.codes;
            line[at] = from.line;
            weight[at] = from.weight;
        }

        private void giveNumbers(int[] test, Pieces drafted) {
            int given = 0;
            for (int n = 0; n < kind.length; n++) {
                pauseFrom[n] = given;
                if (kind[n] == PAUSE) {
                    number[n] = given;
                    given++;
                }
                if (test[n] != NONE) {
                    number[n] = pieces.copyOf(drafted, test[n]);
                }
            }
        }

        private void boundPauses() {
            for (int n = kind.length - 1; n >= 0; n--) {
                pauseTo[n] = pauseFrom[n] + (kind[n] == PAUSE ? 1 : 0);
                if (first[n] != NONE) {
                    pauseTo[n] = pauseTo[first[n]];
                }
                if (second[n] != NONE) {
                    pauseTo[n] = pauseTo[second[n]];
                }
            }
        }

        boolean hasOutput(int k) {
            return k >= 0 && k < outputs;
        }

        boolean canBeExplored() {
            return pauses <= 8 && inputs <= 4 && pieces.made <= 300 && weights <= 300;
        }

        int figure(int what) {
            switch (what) {
                case 0:
                    return kind.length;
                case 1:
                    return pieces.made;
                case 2:
                    return inputs;
                case 3:
                    return outputs;
                case 4:
                    return names.made - inputs - outputs;
                case 5:
                    return pauses;
                case 6:
                    return weights;
                case 7:
                    return deepest;
                default:
                    return codes[0];
            }
        }
    }

    // ---- instants

    /**
     * Finds out what an instant does. All signals are solved together, in rounds over the tree:
     * each round goes by what is known and may make more known, until one brings nothing new.
     * A local signal has a place of its own for each way in which it may be begun in one instant:
     * 0 at the start and when it resumes, else the weight of the loop or sequence that begins it.
     */
    private static final class Reactor {
        private static final int[] NEGATED = {1, 0, 2};
        private static final int[] LESSER = {0, 0, 0, 0, 1, 2, 0, 2, 2};
        private static final int[] GREATER = {0, 1, 2, 1, 1, 1, 2, 1, 2};

        private final Program program;
        private final int[] known;
        private final int[] emitted;
        private final int[] placeFrom;
        private final int[] placeNow;
        private final int[] truth;
        private final int[] test;
        private final int[] can;
        private final int[] must;
        private final boolean[] sure;
        private final int[] heldBefore;
        private final boolean[] chosen;
        private int round;
        private boolean changed;
        private boolean doubtful;
        private boolean starting;
        private int startedBehind;
        private int begun;

        Reactor(Program program) {
            this.program = program;
            int nodes = program.kind.length;
            placeFrom = new int[program.names.made];
            placeNow = new int[program.names.made];
            int places = givePlaces();
            known = new int[places];
            emitted = new int[places];
            truth = new int[program.pieces.made];
            test = new int[nodes];
            can = new int[nodes];
            must = new int[nodes];
            sure = new boolean[nodes];
            heldBefore = new int[program.pauses + 1];
            chosen = new boolean[program.pauses];
        }

        private int givePlaces() {
            int places = program.inputs + program.outputs;
            for (int k = 0; k < places; k++) {
                placeFrom[k] = k;
                placeNow[k] = k;
            }
            for (int n = 0; n < program.kind.length; n++) {
                if (program.kind[n] == LOCAL) {
                    placeFrom[program.number[n]] = places;
                    placeNow[program.number[n]] = places;
                    places += program.weight[n];
                }
            }
            return places;
        }

        /** Goes through an instant of a program that starts, or that goes on with the held pauses. */
        int react(int inputs, boolean resumes, boolean[] held) {
            prepare(inputs, held);
            changed = true;
            for (round = 1; changed && round <= known.length + 2; round++) {
                changed = false;
                doubtful = false;
                goThrough(resumes);
                closeOutputs();
            }
            if (doubtful || must[0] == NONE || !outputsAreKnown()) {
                return NO_REACTION;
            }
            return must[0] == 0 ? ENDS : GOES_ON;
        }

        private void prepare(int inputs, boolean[] held) {
            Arrays.fill(known, UNKNOWN);
            Arrays.fill(emitted, 0);
            for (int k = 0; k < program.inputs; k++) {
                known[k] = (inputs >>> k) & 1;
            }
            for (int k = 0; k < held.length; k++) {
                heldBefore[k + 1] = heldBefore[k] + (held[k] ? 1 : 0);
            }
        }

        /**
         * Goes down and up the tree without recursion, since rows may make it deep. A node that
         * resumes may start one within it: that one is gone through by starting, then it resumes.
         */
        private void goThrough(boolean resumes) {
            clear(0);
            starting = !resumes;
            startedBehind = NONE;
            begun = 0;
            int n = 0;
            int child = within(0, true);
            for (int step = 0; step < 4 * program.weights; step++) {
                if (child != NONE) {
                    n = child;
                    child = starting ? beginStart(n) : beginResume(n);
                } else if (n == 0) {
                    return;
                } else {
                    int done = n;
                    n = program.parent[n];
                    child = done == startedBehind ? comeBack(n, done)
                            : starting ? goOnStart(n, done) : goOnResume(n, done);
                }
            }
        }

        private void closeOutputs() {
            for (int k = program.inputs; k < program.inputs + program.outputs; k++) {
                settleAbsent(k);
            }
        }

        private boolean outputsAreKnown() {
            for (int k = program.inputs; k < program.inputs + program.outputs; k++) {
                if (known[k] == UNKNOWN) {
                    return false;
                }
            }
            return true;
        }

        private void settleAbsent(int place) {
            if (known[place] == UNKNOWN && emitted[place] != round) {
                known[place] = FALSE;
                changed = true;
            }
        }

        private void clear(int n) {
            for (int k = program.pauseFrom[n]; k < program.pauseTo[n]; k++) {
                chosen[k] = false;
            }
        }

        private boolean isHeld(int n) {
            return heldBefore[program.pauseFrom[n]] < heldBefore[program.pauseTo[n]];
        }

        private void answer(int n, int codes, int code) {
            can[n] = codes;
            must[n] = sure[n] ? code : NONE;
        }

        private int within(int child, boolean forSure) {
            sure[child] = forSure;
            return child;
        }

        /** What is started first within a node; NONE if its answer is already there. */
        private int beginStart(int n) {
            int number = program.number[n];
            switch (program.kind[n]) {
                case NOTHING:
                    answer(n, 1, 0);
                    return NONE;
                case PAUSE:
                    answer(n, 2, 1);
                    chosen[number] = sure[n];
                    return NONE;
                case EMIT:
                    answer(n, 1, 0);
                    emit(placeNow[number], sure[n]);
                    return NONE;
                case EXIT:
                    answer(n, 1 << number, number);
                    return NONE;
                case PRESENT:
                    return beginPresent(n);
                case LOCAL:
                    placeNow[number] = placeFrom[number] + begun;
                    return within(program.first[n], sure[n]);
                default:
                    return within(program.first[n], sure[n]);
            }
        }

        private void emit(int place, boolean forSure) {
            emitted[place] = round;
            if (forSure && known[place] == UNKNOWN) {
                known[place] = TRUE;
                changed = true;
            }
        }

        private int beginPresent(int n) {
            test[n] = valueOf(program.number[n]);
            int taken = test[n] == FALSE ? program.second[n] : program.first[n];
            return within(taken, sure[n] && test[n] != UNKNOWN);
        }

        /** What is started next within a node, one of which is done; NONE if it has its answer. */
        private int goOnStart(int n, int done) {
            int other = program.second[n];
            switch (program.kind[n]) {
                case PRESENT:
                    return goOnPresent(n, done);
                case SEQUENCE:
                    if (done == other) {
                        putBehind(n, done);
                        return NONE;
                    }
                    answer(n, can[done], must[done]);
                    return (can[n] & 1) == 0 ? NONE : within(other, must[n] == 0);
                case BOTH:
                    if (done != other) {
                        return within(other, sure[n]);
                    }
                    closeBoth(n);
                    return NONE;
                default:
                    closeSingle(n, done);
                    return NONE;
            }
        }

        private int goOnPresent(int n, int done) {
            if (test[n] != UNKNOWN) {
                answer(n, can[done], must[done]);
                return NONE;
            }
            if (done == program.first[n]) {
                return within(program.second[n], false);
            }
            answer(n, can[program.first[n]] | can[done], NONE);
            return NONE;
        }

        /** Where a node could end with 0, what it started then comes in place of this code. */
        private void putBehind(int n, int started) {
            answer(n, (can[n] & ~1) | can[started], must[n] == 0 ? must[started] : must[n]);
        }

        private void closeBoth(int n) {
            int a = program.first[n];
            int b = program.second[n];
            boolean told = must[a] != NONE && must[b] != NONE;
            answer(n, greaterOfPairs(can[a], can[b]), told ? Math.max(must[a], must[b]) : NONE);
        }

        private void closeSingle(int n, int done) {
            can[n] = can[done];
            must[n] = must[done];
            if (program.kind[n] == LOCAL) {
                int place = placeNow[program.number[n]];
                settleAbsent(place);
                doubtful = doubtful || (sure[n] && known[place] == UNKNOWN);
            } else if (program.kind[n] == TRAP) {
                can[n] = withoutTrap(can[n]);
                if (must[n] >= 2) {
                    clear(n);
                    must[n] = must[n] == 2 ? 0 : must[n] - 1;
                }
            }
        }

        /** What resumes first within a node that holds some pause; NONE if its answer is there. */
        private int beginResume(int n) {
            int a = program.first[n];
            switch (program.kind[n]) {
                case PAUSE:
                    answer(n, 1, 0);
                    return NONE;
                case SUSPEND:
                    return beginSuspend(n);
                case BOTH:
                    answerEnded(a);
                    answerEnded(program.second[n]);
                    return within(isHeld(a) ? a : program.second[n], sure[n]);
                case PRESENT:
                case SEQUENCE:
                    return within(isHeld(a) ? a : program.second[n], sure[n]);
                case LOCAL:
                    placeNow[program.number[n]] = placeFrom[program.number[n]];
                    return within(a, sure[n]);
                default:
                    return within(a, sure[n]);
            }
        }

        /** One of both without a held pause has ended; the other one gets its answer later. */
        private void answerEnded(int n) {
            can[n] = 1;
            must[n] = 0;
        }

        private int beginSuspend(int n) {
            test[n] = valueOf(program.number[n]);
            if (test[n] != TRUE) {
                return within(program.first[n], sure[n] && test[n] == FALSE);
            }
            for (int k = program.pauseFrom[n]; k < program.pauseTo[n]; k++) {
                chosen[k] = sure[n] && heldBefore[k] < heldBefore[k + 1];
            }
            answer(n, 2, 1);
            return NONE;
        }

        /** What comes next within a node that resumes, one of which is done; NONE if nothing does. */
        private int goOnResume(int n, int done) {
            int other = program.second[n];
            switch (program.kind[n]) {
                case SEQUENCE:
                    answer(n, can[done], must[done]);
                    return done == other ? NONE : startBehind(n, other);
                case LOOP:
                    answer(n, can[done], must[done]);
                    return startBehind(n, done);
                case BOTH:
                    if (done != other && isHeld(other)) {
                        return within(other, sure[n]);
                    }
                    closeBoth(n);
                    return NONE;
                case SUSPEND:
                    answer(n, can[done] | (test[n] == UNKNOWN ? 2 : 0), must[done]);
                    return NONE;
                default:
                    closeSingle(n, done);
                    return NONE;
            }
        }

        /** Starts one within a node whose resumed part can end; its local signals are new ones. */
        private int startBehind(int n, int child) {
            if ((can[n] & 1) == 0) {
                return NONE;
            }
            starting = true;
            startedBehind = child;
            begun = program.weight[n];
            return within(child, must[n] == 0);
        }

        private int comeBack(int n, int done) {
            starting = false;
            startedBehind = NONE;
            begun = 0;
            putBehind(n, done);
            return NONE;
        }

        /** The value of a test, whose pieces stand each ahead of those within it. */
        private int valueOf(int root) {
            Pieces pieces = program.pieces;
            for (int i = root + pieces.extent[root] - 1; i >= root; i--) {
                int a = pieces.first[i];
                switch (pieces.kind[i]) {
                    case SIGNAL:
                        truth[i] = known[placeNow[a]];
                        break;
                    case NOT:
                        truth[i] = NEGATED[truth[a]];
                        break;
                    case AND:
                        truth[i] = LESSER[3 * truth[a] + truth[pieces.second[i]]];
                        break;
                    default:
                        truth[i] = GREATER[3 * truth[a] + truth[pieces.second[i]]];
                        break;
                }
            }
            return truth[root];
        }
    }

    // ---- exploring

    /** All reachable states of a program, with what they do on all inputs. */
    private static final class Atlas {
        private static final int STATES = 257;
        private static final int OPTIONS = 16;

        private final int[] follows = new int[STATES * OPTIONS];
        private final int[] emits = new int[STATES * OPTIONS];
        private final int[] far = new int[STATES];
        private final int[] cameFrom = new int[STATES];
        private final int[] cameOn = new int[STATES];
        private final int[] order = new int[STATES];
        private final int[] group = new int[STATES];
        private final int[] split = new int[STATES];
        private int options;
        private int reached;
        private int reactions;
        private int steady;
        private int groups;
        private int doubtState;
        private int doubtInputs;

        static int cell(int state, int inputs) {
            return state * OPTIONS + inputs;
        }

        boolean reaches(int state) {
            return state >= 0 && state < STATES && far[state] != NONE;
        }

        boolean has(int state, int inputs) {
            return reaches(state) && inputs >= 0 && inputs < options;
        }

        /** Takes the states by distance and path, so that each one is met by its least path first. */
        void survey(Program program, Reactor reactor) {
            boolean[] held = new boolean[program.pauses];
            options = 1 << program.inputs;
            Arrays.fill(far, NONE);
            reached = 0;
            reactions = 0;
            steady = 0;
            doubtState = NONE;
            meet(FIRST_STATE, NONE, NONE);
            for (int i = 0; i < reached && i < STATES; i++) {
                tryAll(order[i], program, reactor, held);
            }
            sortOut();
        }

        private void meet(int state, int from, int inputs) {
            far[state] = from == NONE ? 0 : far[from] + 1;
            cameFrom[state] = from;
            cameOn[state] = inputs;
            order[reached] = state;
            reached++;
        }

        private void tryAll(int state, Program program, Reactor reactor, boolean[] held) {
            for (int k = 0; k < held.length; k++) {
                held[k] = ((state >>> k) & 1) != 0;
            }
            int before = reactions;
            for (int inputs = 0; inputs < options; inputs++) {
                int answer = reactor.react(inputs, state != FIRST_STATE, held);
                note(cell(state, inputs), answer, program, reactor);
                if (answer == NO_REACTION) {
                    noteDoubt(state, inputs);
                } else {
                    reactions++;
                }
                int then = follows[cell(state, inputs)];
                if (answer == GOES_ON && !reaches(then)) {
                    meet(then, state, inputs);
                }
            }
            if (reactions - before == options) {
                steady++;
            }
        }

        private void note(int cell, int answer, Program program, Reactor reactor) {
            if (answer == NO_REACTION) {
                follows[cell] = NONE;
                emits[cell] = NONE;
                return;
            }
            int then = 0;
            for (int k = 0; k < program.pauses; k++) {
                then |= reactor.chosen[k] ? 1 << k : 0;
            }
            int present = 0;
            for (int k = 0; k < program.outputs; k++) {
                present |= reactor.known[program.inputs + k] << k;
            }
            follows[cell] = answer == ENDS ? END_STATE : then;
            emits[cell] = present;
        }

        private void noteDoubt(int state, int inputs) {
            boolean nearer = doubtState == NONE || far[state] < far[doubtState]
                    || (far[state] == far[doubtState] && state < doubtState);
            if (nearer) {
                doubtState = state;
                doubtInputs = inputs;
            }
        }

        int inputsOnWay(int state, int i) {
            if (i < 0 || i >= far[state]) {
                return NONE;
            }
            int at = state;
            for (int left = far[state] - 1; left > i; left--) {
                at = cameFrom[at];
            }
            return cameOn[at];
        }

        int reactionsWith(int outputs) {
            int sum = 0;
            for (int i = 0; i < reached; i++) {
                for (int inputs = 0; inputs < options; inputs++) {
                    int cell = cell(order[i], inputs);
                    if (follows[cell] != NONE && (emits[cell] & outputs) == outputs) {
                        sum++;
                    }
                }
            }
            return sum;
        }

        /** Puts all states in one group and splits groups until none tells its states apart. */
        private void sortOut() {
            int least = FIRST_STATE;
            for (int i = 0; i < reached; i++) {
                least = Math.min(least, order[i]);
            }
            for (int i = 0; i < reached; i++) {
                group[order[i]] = least;
            }
            groups = 1;
            int before = 0;
            for (int times = 0; times < STATES && groups != before; times++) {
                before = groups;
                splitGroups();
            }
        }

        /** A group goes by its least state, so states are taken in ascending order. */
        private void splitGroups() {
            groups = 0;
            for (int state = 0; state < STATES; state++) {
                if (reaches(state)) {
                    split[state] = leastAlike(state);
                    groups += split[state] == state ? 1 : 0;
                }
            }
            System.arraycopy(split, 0, group, 0, STATES);
        }

        private int leastAlike(int state) {
            for (int other = 0; other < state; other++) {
                boolean leads = reaches(other) && split[other] == other;
                if (leads && group[other] == group[state] && actAlike(other, state)) {
                    return other;
                }
            }
            return state;
        }

        private boolean actAlike(int a, int b) {
            for (int inputs = 0; inputs < options; inputs++) {
                int toA = follows[cell(a, inputs)];
                int toB = follows[cell(b, inputs)];
                boolean same = toA == toB;
                if (!same && reaches(toA) && reaches(toB)) {
                    same = group[toA] == group[toB];
                }
                if (!same || emits[cell(a, inputs)] != emits[cell(b, inputs)]) {
                    return false;
                }
            }
            return true;
        }
    }

    // ---- the net

    /** The multiplexers of all functions; the numbers 0 and 1 are the constants. */
    private static final class Net {
        private static final int BITS = 13;
        private static final int CHOICES = 8192;
        private static final int HALF = 4096;
        private static final int HEADS = 4096;

        private final int[] layer = new int[HALF];
        private final int[] heads = new int[HEADS];
        private final int[] atBit = new int[BITS];
        private final int[] roots = new int[64];
        private int[] bit = new int[256];
        private int[] low = new int[256];
        private int[] high = new int[256];
        private int[] chain = new int[256];
        private int[] seen = new int[256];
        private int made;
        private int inputs;
        private int outputs;
        private int pauses;
        private int functions;
        private int looks;

        int multiplexers() {
            return made - 2;
        }

        void build(Program program, Atlas atlas) {
            Arrays.fill(heads, NONE);
            Arrays.fill(atBit, 0);
            Arrays.fill(seen, 0);
            looks = 0;
            made = 2;
            inputs = program.inputs;
            outputs = program.outputs;
            pauses = program.pauses;
            functions = outputs + pauses + 1;
            for (int i = 0; i < functions; i++) {
                int later = fold(i, false, atlas);
                int first = fold(i, true, atlas);
                roots[i] = multiplexer(BITS - 1, later, first);
            }
        }

        /**
         * One half of a function, by the highest bit: that of the first state, which has no pauses,
         * or of all others. Truths are joined bit by bit, from the lowest one on; behind a bit of a
         * pause or an input that there is not, all is false.
         */
        private int fold(int function, boolean first, Atlas atlas) {
            int ofPauses = first ? 0 : pauses;
            int width = 1 << (ofPauses + inputs);
            for (int j = 0; j < width; j++) {
                int state = first ? FIRST_STATE : turned(j >>> inputs, ofPauses);
                layer[j] = truth(function, state, turned(j, inputs), atlas);
            }
            for (int b = 0; b < BITS - 1; b++) {
                boolean there = b < 4 ? 3 - b < inputs : 11 - b < ofPauses;
                width = there ? width / 2 : width;
                for (int j = 0; j < width; j++) {
                    layer[j] = there ? multiplexer(b, layer[2 * j], layer[2 * j + 1])
                            : multiplexer(b, layer[j], 0);
                }
            }
            return layer[0];
        }

        /** The lowest bits of a number the other way round. */
        private static int turned(int number, int bits) {
            int turned = 0;
            for (int k = 0; k < bits; k++) {
                turned |= ((number >>> k) & 1) << (bits - 1 - k);
            }
            return turned;
        }

        private int truth(int function, int state, int onInputs, Atlas atlas) {
            int cell = Atlas.cell(state, onInputs);
            if (!atlas.reaches(state) || atlas.follows[cell] == NONE) {
                return 0;
            }
            if (function < outputs) {
                return (atlas.emits[cell] >>> function) & 1;
            }
            boolean ends = atlas.follows[cell] == END_STATE;
            if (function == functions - 1) {
                return ends ? 1 : 0;
            }
            return ends ? 0 : (atlas.follows[cell] >>> (function - outputs)) & 1;
        }

        private int multiplexer(int atLevel, int zero, int one) {
            if (zero == one) {
                return zero;
            }
            int head = (atLevel + 31 * zero + 1009 * one) & (HEADS - 1);
            int i = heads[head];
            for (int steps = 0; i != NONE && steps < made; steps++) {
                if (bit[i] == atLevel && low[i] == zero && high[i] == one) {
                    return i;
                }
                i = chain[i];
            }
            return add(atLevel, zero, one, head);
        }

        private int add(int atLevel, int zero, int one, int head) {
            if (made == bit.length) {
                widen(2 * made);
            }
            bit[made] = atLevel;
            low[made] = zero;
            high[made] = one;
            chain[made] = heads[head];
            heads[head] = made;
            atBit[atLevel]++;
            made++;
            return made - 1;
        }

        private void widen(int room) {
            bit = Arrays.copyOf(bit, room);
            low = Arrays.copyOf(low, room);
            high = Arrays.copyOf(high, room);
            chain = Arrays.copyOf(chain, room);
            seen = Arrays.copyOf(seen, room);
        }

        long truthsOn(int choice) {
            long truth = 0;
            for (int i = 0; i < functions; i++) {
                truth |= (long) truthOn(choice, roots[i]) << i;
            }
            return truth;
        }

        private int truthOn(int choice, int root) {
            int at = root;
            for (int steps = 0; at >= 2 && steps < BITS; steps++) {
                at = ((choice >>> bit[at]) & 1) == 0 ? low[at] : high[at];
            }
            return at;
        }

        /** Those within stand ahead, so one way down from the root meets each after all above it. */
        int multiplexersOf(int function) {
            looks++;
            seen[roots[function]] = looks;
            int sum = 0;
            for (int i = roots[function]; i >= 2; i--) {
                if (seen[i] == looks) {
                    seen[low[i]] = looks;
                    seen[high[i]] = looks;
                    sum++;
                }
            }
            return sum;
        }
    }
}

/** Promises 23 to 26: lay, pass, level, size. */
final class NetTest {
    private static final Check CHECK = new Check("NetTest");

    public static void main(String[] args) {
        beforeLaying();
        smallest();
        oneInput();
        sharing();
        inputsAndPauses();
        allBits();
        choices();
        again();
        CHECK.finish();
    }

    private static SignalEngine laid(String text, int multiplexers) {
        SignalEngine x = CHECK.reads(text);
        x.explore();
        CHECK.equal("lay() of " + text, x.lay(), multiplexers);
        CHECK.equal("count(15) of " + text, x.count(15), multiplexers);
        return x;
    }

    private static void levels(SignalEngine x, int... due) {
        for (int v = 0; v < 13; v++) {
            CHECK.equal("level(" + v + ")", x.level(v), due[v]);
        }
    }

    private static void sizes(SignalEngine x, int... due) {
        for (int i = 0; i < due.length; i++) {
            CHECK.equal("size(" + i + ")", x.size(i), due[i]);
        }
        CHECK.equal("size(" + due.length + ")", x.size(due.length), -1);
        CHECK.equal("size(-1)", x.size(-1), -1);
    }

    private static void beforeLaying() {
        SignalEngine none = new SignalEngine();
        SignalEngine read = CHECK.reads("pause");
        SignalEngine explored = CHECK.reads("pause");
        explored.explore();
        for (SignalEngine x : new SignalEngine[] {none, read, explored}) {
            CHECK.refusesState("pass(0)", () -> x.pass(0));
            CHECK.refusesState("pass(-1)", () -> x.pass(-1));
            CHECK.equal("level(0)", x.level(0), 0);
            CHECK.equal("size(0)", x.size(0), -1);
            CHECK.equal("count(15)", x.count(15), 0);
        }
        CHECK.refusesState("lay() without a program", none::lay);
        CHECK.refusesState("lay() without exploring", read::lay);
        CHECK.equal("lay()", explored.lay() > 0 ? 1 : 0, 1);
    }

    /** True on the choice 4096 alone: a chain over all bits, which both functions share or not. */
    private static void smallest() {
        SignalEngine x = laid("nothing", 13);
        sizes(x, 13);
        levels(x, 1, 1, 1, 1, 1, 1, 1, 1, 1, 1, 1, 1, 1);
        CHECK.equal("pass(4096)", x.pass(4096), 1);
        CHECK.equal("pass(0)", x.pass(0), 0);
        CHECK.equal("pass(4097)", x.pass(4097), 0);
        SignalEngine y = laid("out a;present a else emit a end", 0);
        sizes(y, 0, 0);
        levels(y, 0, 0, 0, 0, 0, 0, 0, 0, 0, 0, 0, 0, 0);
        CHECK.equal("pass(4096)", y.pass(4096), 0);
    }

    private static void oneInput() {
        SignalEngine x = laid("in a;out p;present a then emit p end", 22);
        sizes(x, 13, 12);
        levels(x, 2, 2, 2, 2, 2, 2, 2, 2, 2, 1, 1, 1, 1);
        CHECK.equal("pass(4096)", x.pass(4096), 2);
        CHECK.equal("pass(4096 + 8)", x.pass(4104), 3);
        CHECK.equal("pass(4096 + 4)", x.pass(4100), 0);
    }

    private static void sharing() {
        SignalEngine x = laid("out p,q,r;emit p;emit q", 13);
        sizes(x, 13, 13, 0, 13);
        CHECK.equal("pass(4096)", x.pass(4096), 11);
        SignalEngine y = laid("pause", 15);
        sizes(y, 13, 13);
        CHECK.equal("pass(4096)", y.pass(4096), 1);
        CHECK.equal("pass(2048)", y.pass(2048), 2);
        CHECK.equal("pass(6144)", y.pass(6144), 0);
        CHECK.equal("pass(0)", y.pass(0), 0);
        levels(y, 2, 2, 1, 1, 1, 1, 1, 1, 1, 1, 1, 1, 1);
    }

    private static void inputsAndPauses() {
        SignalEngine x = CHECK.reads("in a,b,c,d;out p;pause;pause;present a and d then emit p end;present b then pause end");
        x.explore();
        x.lay();
        CHECK.equal("size(4) is there", x.size(4) > 0 ? 1 : 0, 1);
        CHECK.equal("size(5) is not", x.size(5), -1);
        CHECK.equal("first to pause 0", x.pass(4096), 2);
        CHECK.equal("first to pause 0 on d", x.pass(4097), 2);
        CHECK.equal("pause 0 to pause 1", x.pass(2048), 4);
        CHECK.equal("pause 1 to the end", x.pass(1024), 16);
        CHECK.equal("pause 1 on a and d", x.pass(1024 + 9), 17);
        CHECK.equal("pause 1 on b", x.pass(1024 + 4), 8);
        CHECK.equal("pause 1 on all", x.pass(1024 + 15), 9);
        CHECK.equal("pause 2 to the end", x.pass(512), 16);
        CHECK.equal("pauses 0 and 1", x.pass(2048 + 1024), 0);
        CHECK.equal("no pause at all", x.pass(15), 0);
    }

    /** Eight pauses and four inputs: each choice with a reachable state says what next() says. */
    private static void allBits() {
        SignalEngine x = CHECK.reads("in a,b,c,d;out p;await a||await b||await c||await d||await a and b"
                + "||await c and d||await a and c;emit p||await b and d");
        int states = x.explore();
        CHECK.holds("many states: " + states, states > 20);
        x.lay();
        for (int choice = 0; choice < 8192; choice++) {
            int state = choice >= 8192 - 4096 && (choice & 4080) == 0 ? 256 : Integer.reverse(choice >> 4) >>> 24;
            int inputs = Integer.reverse(choice & 15) >>> 28;
            boolean real = choice < 4096 || state == 256;
            int then = real ? x.next(state, inputs) : -1;
            long due = then == -1 ? 0 : x.shows(state, inputs) | (then == 257 ? 512L : (long) then << 1);
            CHECK.equal("pass(" + choice + ")", x.pass(choice), due);
        }
    }

    private static void choices() {
        SignalEngine x = laid("nothing", 13);
        int[] wrong = {-1, 8192, Integer.MIN_VALUE, Integer.MAX_VALUE};
        for (int choice : wrong) {
            CHECK.refusesArgument("pass(" + choice + ")", () -> x.pass(choice));
        }
        CHECK.equal("pass(8191)", x.pass(8191), 0);
        int[] levels = {-1, 13, Integer.MIN_VALUE, Integer.MAX_VALUE};
        for (int v : levels) {
            CHECK.equal("level(" + v + ")", x.level(v), 0);
        }
        int[] functions = {-1, 1, 64, Integer.MIN_VALUE, Integer.MAX_VALUE};
        for (int i : functions) {
            CHECK.equal("size(" + i + ")", x.size(i), -1);
        }
        StringBuilder outputs = new StringBuilder("o0");
        for (int k = 1; k < 31; k++) {
            outputs.append(",o").append(k);
        }
        SignalEngine y = CHECK.reads("out " + outputs + ";pause;pause;pause;pause;pause;pause;pause;emit o30;pause;emit o0");
        y.explore();
        y.lay();
        CHECK.equal("the last pause", y.pass(1 << 5), (1L << 30) | (1L << 38));
        CHECK.equal("the end", y.pass(1 << 4), 1L | (1L << 39));
        CHECK.equal("size(39)", y.size(39), 13);
        CHECK.equal("size(40)", y.size(40), -1);
    }

    /** What is laid out stays, and is not disturbed by what is asked or run. */
    private static void again() {
        SignalEngine x = laid("in a;out p;present a then emit p end", 22);
        CHECK.equal("lay() once more", x.lay(), 22);
        x.instant(1);
        CHECK.equal("explore() once more", x.explore(), 1);
        CHECK.equal("count(15)", x.count(15), 22);
        CHECK.equal("size(0)", x.size(0), 13);
        CHECK.equal("size(0) again", x.size(0), 13);
        Check.feed(x, "nothing");
        CHECK.equal("read()", x.read(), 0);
        CHECK.equal("count(15) after read()", x.count(15), 0);
        x.explore();
        CHECK.equal("count(15) after explore()", x.count(15), 0);
        CHECK.equal("lay() of another one", x.lay(), 13);
        CHECK.equal("size(0) of it", x.size(0), 13);
        levels(x, 1, 1, 1, 1, 1, 1, 1, 1, 1, 1, 1, 1, 1);
    }
}

import java.util.function.ToLongFunction;

/**
 * Terms: a call that throws changes nothing; promises 2 and 3: NONE, changing nothing. Two engines
 * go through the same calls, one of them with calls between that throw or are refused: all answers
 * have to be the same.
 */
final class RefusedCallsTest {
    private static final Check CHECK = new Check("RefusedCallsTest");
    private static final int[] FAR = {-1, Integer.MIN_VALUE, Integer.MAX_VALUE};

    private final SignalEngine plain = new SignalEngine();
    private final SignalEngine disturbed = new SignalEngine();
    private boolean program;
    private boolean ended;
    private boolean explored;
    private boolean laid;
    private int inputs;

    public static void main(String[] args) {
        new RefusedCallsTest().oneLife();
        new RefusedCallsTest().textInParts();
        new RefusedCallsTest().tooLarge();
        CHECK.finish();
    }

    /** The same call on both engines, with all that is refused ahead of it on the disturbed one. */
    private void both(String what, ToLongFunction<SignalEngine> call) {
        disturb();
        CHECK.equal(what, call.applyAsLong(disturbed), call.applyAsLong(plain));
        ended = plain.count(11) == 2;
        program = plain.count(11) != 0;
        explored = plain.count(13) != 0;
        laid = plain.size(0) != SignalEngine.NONE;
        inputs = plain.count(2);
        CHECK.holds("all else after " + what, Picture.of(disturbed).equals(Picture.of(plain)));
    }

    private void disturb() {
        CHECK.about("promise 3: NONE, changing nothing, when n is not 0 .. 20");
        CHECK.none("end(-1)", disturbed.end(-1));
        CHECK.none("end(21)", disturbed.end(21));
        if (!program) {
            CHECK.about("promises 8, 13: throws without a program, and changes nothing");
            CHECK.refusesState("restart()", disturbed::restart);
            CHECK.refusesState("explore()", disturbed::explore);
        }
        disturbInstant();
        disturbExplored();
        disturbNet();
        CHECK.about("terms: a call that throws changes nothing");
    }

    private void disturbInstant() {
        CHECK.about("promise 9: throws, and changes nothing");
        int[] wrong = {1 << inputs, -1, Integer.MIN_VALUE};
        for (int number : wrong) {
            refused(program && !ended, "instant(" + number + ")", () -> disturbed.instant(number));
        }
        if (!program || ended) {
            CHECK.refusesState("instant(0)", () -> disturbed.instant(0));
        }
    }

    private void disturbExplored() {
        CHECK.about("promises 12, 16, 17, 21, 23: throws, and changes nothing");
        int[] wrong = {0, 257, -1, Integer.MAX_VALUE};
        for (int state : wrong) {
            refused(explored, "go(" + state + ")", () -> disturbed.go(state));
        }
        if (!explored) {
            CHECK.refusesState("go(256)", () -> disturbed.go(256));
            CHECK.refusesState("next(256, 0)", () -> disturbed.next(256, 0));
            CHECK.refusesState("shows(256, 0)", () -> disturbed.shows(256, 0));
            CHECK.refusesState("classes()", disturbed::classes);
            CHECK.refusesState("lay()", disturbed::lay);
        }
    }

    private void disturbNet() {
        CHECK.about("promise 24: throws, and changes nothing");
        for (int choice : FAR) {
            refused(laid, "pass(" + choice + ")", () -> disturbed.pass(choice));
        }
        refused(laid, "pass(8192)", () -> disturbed.pass(8192));
        if (!laid) {
            CHECK.refusesState("pass(0)", () -> disturbed.pass(0));
        }
    }

    /** By its argument where the call may be made at all, else by the state of the engine. */
    private void refused(boolean mayBe, String what, Runnable call) {
        if (mayBe) {
            CHECK.refusesArgument(what, call);
        } else {
            CHECK.refusesState(what, call);
        }
    }

    private void reads(String text) {
        both("feeding", x -> {
            Check.feed(x, text);
            return x.count(9);
        });
        both("read()", SignalEngine::read);
    }

    private void instant(int number) {
        both("instant(" + number + ")", x -> x.instant(number));
    }

    private void go(int state) {
        both("go(" + state + ")", x -> {
            x.go(state);
            return 0;
        });
    }

    private void oneLife() {
        reads("pause pause");
        reads("in i,j;out o,p;emit p;pause;present i then present o else emit o end end;pause;emit p");
        instant(3);
        instant(1);
        instant(2);
        both("restart()", SignalEngine::restart);
        instant(0);
        both("explore()", SignalEngine::explore);
        instant(1);
        both("lay()", SignalEngine::lay);
        instant(0);
        instant(3);
        both("explore()", SignalEngine::explore);
        go(1);
        instant(1);
        instant(2);
        both("lay()", SignalEngine::lay);
        instant(2);
        go(256);
        instant(0);
        both("restart()", SignalEngine::restart);
        reads("out o;sustain o");
        instant(0);
        both("explore()", SignalEngine::explore);
        reads("emit o");
        reads("nothing");
        instant(0);
        both("restart()", SignalEngine::restart);
    }

    /** What was fed since the latest end() is not forgotten by a call that is refused. */
    private void textInParts() {
        both("feed()", x -> x.feed(0x70617573, 0x653b7061, 0x7573653b, 0x70617573, 0x653b7061));
        both("end(12)", x -> x.end(12));
        both("end(12) again", x -> x.end(12));
        both("feed()", x -> x.feed(0x6e6f7468, 0x696e6720, 0x20202020, 0x20202020, 0x20202020));
        both("feed()", x -> x.feed(0, 0, 0, 0, 0));
        both("end(0)", x -> x.end(0));
        both("read()", SignalEngine::read);
        CHECK.equal("nodes", plain.count(0), 5);
        both("end(0)", x -> x.end(0));
        instant(0);
        both("feed()", x -> x.feed(0x70617573, 0x650a0a0a, 0, 0, 0));
        instant(0);
        both("end(8)", x -> x.end(8));
        instant(0);
        both("read()", SignalEngine::read);
        CHECK.equal("nodes", plain.count(0), 1);
    }

    private void tooLarge() {
        reads(Texts.row("pause", ";", 9));
        instant(0);
        both("explore()", SignalEngine::explore);
        instant(0);
        both("explore()", SignalEngine::explore);
        both("restart()", SignalEngine::restart);
        reads(Texts.row("pause", ";", 8));
        both("explore()", SignalEngine::explore);
        go(128);
        instant(0);
    }
}

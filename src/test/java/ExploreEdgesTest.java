/** The edges of promises 13 to 22: explore, distance, path, next, shows, doubt, ever, together, classes, alike. */
final class ExploreEdgesTest {
    private static final Check CHECK = new Check("ExploreEdgesTest");
    private static final int[] FAR = {Integer.MIN_VALUE, -257, -256, -2, -1, 257, 258, 512, 1 << 20, Integer.MAX_VALUE};
    private static final String DOUBT = "present o else emit o end";

    public static void main(String[] args) {
        exploreThrows();
        limitOfPauses();
        limitOfInputs();
        limitOfPieces();
        limitOfWeights();
        allLimitsAtOnce();
        nothingIsExplored();
        exploredOnceMore();
        staysWhereItIs();
        reachableStates();
        distances();
        longWays();
        leastPaths();
        nextAndShows();
        inputsOfNext();
        nearestDoubt();
        noDoubt();
        everAndTogether();
        noSuchOutput();
        mostOutputs();
        statesAlike();
        toldApart();
        noSuchState();
        CHECK.finish();
    }

    private static void exploreThrows() {
        CHECK.about("promise 13: IllegalStateException when there is no program");
        SignalEngine x = new SignalEngine();
        CHECK.refusesState("explore() of a new object", x, x::explore);
        Check.feed(x, "pause");
        CHECK.refusesState("explore() before the text is read", x, x::explore);
        x.read();
        CHECK.equal("explore()", x.explore(), 2);
        x.read();
        CHECK.refusesState("explore() after a fault", x, x::explore);
    }

    /** The program is read and runs, but there is nothing explored of it. */
    private static void tooLarge(String text) {
        SignalEngine x = CHECK.reads(text);
        CHECK.unchanged("explore()", x, () -> CHECK.none("explore() of " + text, x.explore()));
        notExplored(x);
        CHECK.holds("it runs", x.instant(0) <= 1);
    }

    private static void notExplored(SignalEngine x) {
        CHECK.equal("count(13)", x.count(13), 0);
        CHECK.equal("count(14)", x.count(14), 0);
        CHECK.none("distance(256)", x.distance(256));
        CHECK.none("path(1, 0)", x.path(1, 0));
        CHECK.refusesState("next(256, 0)", x, () -> x.next(256, 0));
        CHECK.refusesState("next(-1, -1)", x, () -> x.next(-1, -1));
        CHECK.refusesState("shows(256, 0)", x, () -> x.shows(256, 0));
        CHECK.refusesState("shows(-1, -1)", x, () -> x.shows(-1, -1));
        for (int what = -1; what <= 3; what++) {
            CHECK.none("doubt(" + what + ")", x.doubt(what));
        }
        CHECK.none("ever(0)", x.ever(0));
        CHECK.none("together(0, 0)", x.together(0, 0));
        CHECK.refusesState("classes()", x, x::classes);
        CHECK.none("alike(256)", x.alike(256));
        CHECK.refusesState("lay()", x, x::lay);
        CHECK.refusesState("go(256)", x, () -> x.go(256));
    }

    private static void limitOfPauses() {
        CHECK.about("promise 13: NONE when it has more of pauses: at most 8");
        CHECK.explores(Texts.row("pause", ";", 8), 9);
        tooLarge(Texts.row("pause", ";", 9));
        CHECK.explores(Texts.row("pause", "||", 8), 2);
        tooLarge(Texts.row("pause", "||", 9));
        CHECK.explores("in a;" + Texts.row("await a", ";", 8), 9);
        tooLarge("in a;" + Texts.row("await a", ";", 8) + ";halt");
    }

    private static void limitOfInputs() {
        CHECK.about("promise 13: NONE when it has more of inputs: at most 4");
        CHECK.explores("pause", 2);
        CHECK.explores("in a,b,c,d;pause", 2);
        tooLarge("in a,b,c,d,e;pause");
        CHECK.explores("in a,b,c,d;out " + Texts.names("o", 31) + ";pause", 2);
    }

    private static void limitOfPieces() {
        CHECK.about("promise 13: NONE when it has more of pieces: at most 300");
        CHECK.explores("in a;await not " + Texts.row("a", " or ", 150), 2);
        tooLarge("in a;await not not " + Texts.row("a", " or ", 150));
        CHECK.explores("in a;abort pause when not " + Texts.row("a", " or ", 75) + " end", 2);
        tooLarge("in a;abort pause when not " + Texts.row("a", " or ", 75) + " end;await a");
    }

    private static void limitOfWeights() {
        CHECK.about("promise 13: NONE when it has more of weights: at most 300");
        String row = Texts.row("nothing", ";", 100);
        CHECK.equal("count(6)", CHECK.explores("nothing||" + row, 1).count(6), 300);
        tooLarge("trap T in nothing||" + row + " end");
        CHECK.explores("trap T in " + Texts.row("nothing", "||", 150) + " end", 1);
        tooLarge(Texts.row("nothing", "||", 151));
    }

    /** Eight pauses, four inputs, 300 pieces, weights of 300; then one more of each. */
    private static void allLimitsAtOnce() {
        CHECK.about("promise 13: all limits at once, and one more of each");
        String pauses = Texts.row("pause", "||", 8);
        String test = "||present not " + Texts.row("a", " or ", 150) + " then nothing end";
        String more = "||present not not " + Texts.row("a", " or ", 150) + " then nothing end";
        String row = "||" + Texts.row("nothing", ";", 94);
        SignalEngine x = CHECK.explores("in a,b,c,d;" + pauses + test + row, 2);
        CHECK.equal("count(1)", x.count(1), 300);
        CHECK.equal("count(2)", x.count(2), 4);
        CHECK.equal("count(5)", x.count(5), 8);
        CHECK.equal("count(6)", x.count(6), 300);
        CHECK.equal("next(256, 15)", x.next(256, 15), 255);
        CHECK.equal("next(255, 15)", x.next(255, 15), 257);
        tooLarge("in a,b,c,d,e;" + pauses + test + row);
        tooLarge("in a,b,c,d;" + pauses + more + row);
        tooLarge("in a,b,c,d;" + pauses + test + "||" + Texts.row("nothing", ";", 93) + ";pause");
        tooLarge("in a,b,c,d;trap T in " + pauses + test + row + " end");
    }

    private static void nothingIsExplored() {
        CHECK.about("promises 14 to 23: when nothing is explored");
        notExplored(CHECK.reads("in i;out o;emit o;pause"));
        SignalEngine x = CHECK.explores("in i;out o;emit o;pause", 2);
        Check.feed(x, "in i;out o;emit o;pause");
        x.read();
        notExplored(x);
        SignalEngine y = CHECK.explores("in i;out o;emit o;pause", 2);
        y.lay();
        Check.feed(y, Texts.row("pause", ";", 9));
        y.read();
        CHECK.none("explore() of a large one behind a small one", y.explore());
        notExplored(y);
    }

    private static void exploredOnceMore() {
        CHECK.about("promise 13: once more: what was explored, and a net that is laid out, stay");
        SignalEngine x = CHECK.explores("in i;out o;loop emit o;pause;present i then pause end end", 3);
        CHECK.unchanged("explore()", x, () -> CHECK.equal("explore() once more", x.explore(), 3));
        CHECK.equal("size(0): there is no net", x.size(0), -1);
        x.lay();
        CHECK.unchanged("explore()", x, () -> CHECK.equal("explore() with a net", x.explore(), 3));
        CHECK.holds("there is a net", x.count(15) > 0);
        x.go(2);
        CHECK.unchanged("explore()", x, () -> CHECK.equal("explore() elsewhere", x.explore(), 3));
        x.instant(0);
        CHECK.equal("count(13) after an instant", x.count(13), 3);
        x.restart();
        CHECK.equal("count(13) after restart()", x.count(13), 3);
    }

    /** Where a run is, by what status, selected and count tell of it. */
    private static String place(SignalEngine x) {
        StringBuilder place = new StringBuilder();
        for (int k = 0; k < 4; k++) {
            place.append(x.status(k)).append(x.selected(k)).append(' ');
        }
        return place.append(x.count(10)).append(' ').append(x.count(11)).append(' ').append(x.count(12)).toString();
    }

    private static void staysWhereItIs() {
        CHECK.about("promise 13: explores the program, which stays where it is");
        String text = "in i;out o,p;emit p;pause;present i then " + DOUBT + " end;pause";
        int[][] ways = {{}, {1}, {0, 1}, {0, 0}, {0, 0, 1}, {0, 0, 0}};
        int[] ends = {0, 0, 2, 0, 1, 1};
        for (int i = 0; i < ways.length; i++) {
            SignalEngine x = CHECK.reads(text);
            int answer = 0;
            for (int inputs : ways[i]) {
                answer = x.instant(inputs);
            }
            CHECK.equal("the last instant", answer, ends[i]);
            String before = place(x);
            CHECK.equal("explore()", x.explore(), 3);
            CHECK.holds("it stays where it is", place(x).equals(before));
            if (answer == 1) {
                CHECK.refusesState("instant(0)", () -> x.instant(0));
            } else {
                CHECK.equal("it goes on from there", x.instant(0), ways[i].length == 2 && answer == 0 ? 1 : 0);
            }
        }
    }

    private static void reachableStates() {
        CHECK.about("terms, exploring: first is reachable, whatever it does");
        SignalEngine x = CHECK.explores("out o;" + DOUBT, 1);
        CHECK.equal("distance(256)", x.distance(256), 0);
        CHECK.explores("nothing", 1);
        CHECK.about("terms, exploring: but the end");
        SignalEngine y = CHECK.explores("pause", 2);
        CHECK.equal("next(1, 0)", y.next(1, 0), 257);
        CHECK.none("distance(257)", y.distance(257));
        CHECK.none("next(257, 0)", y.next(257, 0));
        CHECK.refusesArgument("go(257)", y, () -> y.go(257));
        CHECK.about("terms, exploring: a state is a set of selected pauses, bit k for pause k");
        SignalEngine z = CHECK.explores(Texts.row("pause", "||", 8), 2);
        CHECK.equal("next(256, 0)", z.next(256, 0), 255);
        CHECK.equal("distance(255)", z.distance(255), 1);
        SignalEngine w = CHECK.explores(Texts.row("pause", ";", 8), 9);
        for (int k = 0; k < 8; k++) {
            CHECK.equal("distance of pause " + k, w.distance(1 << k), k + 1);
        }
        CHECK.about("terms, exploring: what no inputs lead to is not reachable");
        CHECK.explores("in i;halt;present i then pause end", 2);
        CHECK.explores("in i;present i and not i then pause end", 1);
        CHECK.explores("in i;present i then pause end", 2);
    }

    private static void distances() {
        CHECK.about("promise 14: a state's distance; NONE when it is not reachable");
        SignalEngine x = CHECK.explores("in i;pause;present i then pause end;pause", 4);
        int[] due = {-1, 1, 2, -1, 2};
        for (int state = 0; state < due.length; state++) {
            CHECK.equal("distance(" + state + ")", x.distance(state), due[state]);
        }
        CHECK.equal("distance(256)", x.distance(256), 0);
        CHECK.none("distance(255)", x.distance(255));
        for (int state : FAR) {
            CHECK.none("distance(" + state + ")", x.distance(state));
        }
        CHECK.about("promise 15: the inputs in instant i (from 0) of a state's path; NONE when there is none");
        CHECK.none("path(256, 0)", x.path(256, 0));
        CHECK.none("path(256, -1)", x.path(256, -1));
        CHECK.none("path(2, -1)", x.path(2, -1));
        CHECK.equal("path(2, 0)", x.path(2, 0), 0);
        CHECK.equal("path(2, 1)", x.path(2, 1), 1);
        CHECK.none("path(2, 2)", x.path(2, 2));
        CHECK.equal("path(4, 1)", x.path(4, 1), 0);
        CHECK.none("path(4, 2)", x.path(4, 2));
        CHECK.none("path(0, 0)", x.path(0, 0));
        for (int far : FAR) {
            CHECK.none("path(" + far + ", 0)", x.path(far, 0));
            CHECK.none("path(1, " + far + ")", x.path(1, far));
        }
    }

    /** A counter of three digits, two pauses each: digit k is 0 at pause 2 k, 1 at pause 2 k + 1. */
    private static void longWays() {
        CHECK.about("promise 15: a path as long as the distance");
        SignalEngine x = CHECK.explores("in i;signal c,d in loop await i;await i;emit c end"
                + "||loop await c;await c;emit d end||loop await d;await d end end", 9);
        for (int n = 0; n < 8; n++) {
            int state = 0;
            for (int digit = 0; digit < 3; digit++) {
                state |= 1 << (2 * digit + (n >> digit & 1));
            }
            CHECK.equal("distance(" + state + ")", x.distance(state), n + 1);
            CHECK.equal("path(" + state + ", 0)", x.path(state, 0), 0);
            for (int i = 1; i <= n; i++) {
                CHECK.equal("path(" + state + ", " + i + ")", x.path(state, i), 1);
            }
            CHECK.none("path(" + state + ", " + (n + 1) + ")", x.path(state, n + 1));
        }
    }

    private static void path(SignalEngine x, int state, int first, int second) {
        CHECK.equal("distance(" + state + ")", x.distance(state), 2);
        CHECK.equal("path(" + state + ", 0)", x.path(state, 0), first);
        CHECK.equal("path(" + state + ", 1)", x.path(state, 1), second);
    }

    private static void leastPaths() {
        CHECK.about("terms, exploring: the path with the least inputs in the first instant, of these in the second");
        SignalEngine x = CHECK.explores("in a,b;trap T in present a then pause;present a or b then halt else exit T end"
                + " else pause;present a and b then exit T else halt end end end;pause", 6);
        path(x, 16, 0, 3);
        path(x, 8, 0, 0);
        path(x, 2, 1, 1);
        CHECK.about("terms, exploring: those ways alone that have so many instants as the distance");
        SignalEngine y = CHECK.explores("in a,b;present b then pause else pause;pause end;pause", 5);
        path(y, 8, 2, 0);
        CHECK.equal("path(2, 0)", y.path(2, 0), 0);
        CHECK.equal("path(1, 0)", y.path(1, 0), 2);
    }

    private static void nextAndShows() {
        CHECK.about("promises 16, 17: the next state, 257 for the end, and the outputs of that reaction");
        SignalEngine x = CHECK.explores("in i;out o,p;emit p;pause;present i then " + DOUBT + " end;emit p", 2);
        CHECK.equal("next(256, 0)", x.next(256, 0), 1);
        CHECK.equal("shows(256, 0)", x.shows(256, 0), 2);
        CHECK.equal("next(1, 0)", x.next(1, 0), 257);
        CHECK.equal("shows(1, 0)", x.shows(1, 0), 2);
        CHECK.about("promises 16, 17: NONE when there is no reaction");
        CHECK.none("next(1, 1)", x.next(1, 1));
        CHECK.none("shows(1, 1)", x.shows(1, 1));
        CHECK.about("promises 16, 17: NONE when the state is not reachable");
        int[] wrong = {0, 2, 3, 255};
        for (int state : wrong) {
            CHECK.none("next(" + state + ", 0)", x.next(state, 0));
            CHECK.none("shows(" + state + ", 0)", x.shows(state, 0));
        }
        for (int state : FAR) {
            CHECK.none("next(" + state + ", 0)", x.next(state, 0));
            CHECK.none("shows(" + state + ", 0)", x.shows(state, 0));
        }
        CHECK.about("promise 17: outputs as bits, 0 when none is present");
        SignalEngine y = CHECK.explores("out o;pause", 2);
        CHECK.equal("shows(256, 0)", y.shows(256, 0), 0);
        CHECK.equal("shows(1, 0), the end", y.shows(1, 0), 0);
    }

    private static void inputsOfNext() {
        CHECK.about("promises 16, 17: NONE when inputs has a bit of an input that there is not");
        for (int many = 0; many <= 4; many++) {
            String head = many == 0 ? "" : "in " + Texts.names("i", many) + ";";
            SignalEngine x = CHECK.explores(head + "out o;loop emit o;pause end", 2);
            CHECK.equal("next(256, all)", x.next(256, (1 << many) - 1), 1);
            CHECK.equal("shows(256, all)", x.shows(256, (1 << many) - 1), 1);
            CHECK.equal("next(1, all)", x.next(1, (1 << many) - 1), 1);
            int[] wrong = {1 << many, (2 << many) - 1, 16, 17, 31, 32};
            for (int inputs : wrong) {
                CHECK.none("next(256, " + inputs + ")", x.next(256, inputs));
                CHECK.none("shows(256, " + inputs + ")", x.shows(256, inputs));
                CHECK.none("next(1, " + inputs + ")", x.next(1, inputs));
            }
            for (int inputs : FAR) {
                CHECK.none("next(1, " + inputs + ")", x.next(1, inputs));
                CHECK.none("shows(1, " + inputs + ")", x.shows(1, inputs));
            }
        }
    }

    private static void doubt(SignalEngine x, int distance, int state, int inputs) {
        CHECK.equal("doubt(0)", x.doubt(0), distance);
        CHECK.equal("doubt(1)", x.doubt(1), state);
        CHECK.equal("doubt(2)", x.doubt(2), inputs);
        CHECK.none("doubt(3)", x.doubt(3));
        CHECK.none("doubt(-1)", x.doubt(-1));
        for (int what : FAR) {
            CHECK.none("doubt(" + what + ")", x.doubt(what));
        }
    }

    private static void nearestDoubt() {
        CHECK.about("promise 18: the one with the least distance");
        doubt(CHECK.explores("in i;out o;present i then " + DOUBT + " end;pause;" + DOUBT, 2), 0, 256, 1);
        doubt(CHECK.explores("in i;out o;present i then pause;pause;" + DOUBT + " else pause;" + DOUBT + " end", 4), 1, 4, 0);
        CHECK.about("promise 18: then state");
        doubt(CHECK.explores("in i;out o;present i then pause;" + DOUBT + " else pause;" + DOUBT + " end", 3), 1, 1, 0);
        CHECK.about("promise 18: then inputs");
        doubt(CHECK.explores("in i,j;out o;pause;present i or j then " + DOUBT + " end", 2), 1, 1, 1);
        doubt(CHECK.explores("in i,j;out o;pause;present j then " + DOUBT + " end", 2), 1, 1, 2);
        doubt(CHECK.explores("in a,b,c,d;out o;present a and b and c and d then " + DOUBT + " end", 1), 0, 256, 15);
    }

    private static void noDoubt() {
        CHECK.about("promise 18: NONE when all react");
        SignalEngine x = CHECK.explores("in i;out o;present i then emit o end;pause", 2);
        doubt(x, -1, -1, -1);
        CHECK.about("promise 27: 14 how many of the reachable states react on all inputs");
        CHECK.equal("count(14): all", x.count(14), 2);
        CHECK.equal("count(14): all but one",
                CHECK.explores("in i;out o;pause;present i then " + DOUBT + " end", 2).count(14), 1);
        CHECK.equal("count(14): none", CHECK.explores("in i;out o;present i then " + DOUBT + " end", 1).count(14), 0);
        CHECK.equal("count(14): what does not react at all", CHECK.explores("out o;" + DOUBT, 1).count(14), 0);
    }

    private static void everAndTogether() {
        CHECK.about("promise 19: 0 never present, 1 now and then, 2 always, in all reactions");
        SignalEngine x = CHECK.explores("in i;out o,p,q;emit q;present i then emit p end;pause;emit q", 2);
        CHECK.equal("ever(0)", x.ever(0), 0);
        CHECK.equal("ever(1)", x.ever(1), 1);
        CHECK.equal("ever(2)", x.ever(2), 2);
        CHECK.about("promise 20: how many reactions there are in which both are present");
        int[][] due = {{0, 0, 0}, {0, 1, 1}, {0, 1, 4}};
        for (int j = 0; j < 3; j++) {
            for (int k = 0; k < 3; k++) {
                CHECK.equal("together(" + j + ", " + k + ")", x.together(j, k), due[j][k]);
            }
        }
        CHECK.about("promises 19, 20: what does not react does not count");
        SignalEngine y = CHECK.explores("in i;out o,p;present i then " + DOUBT + " else emit p end", 1);
        CHECK.equal("ever(0)", y.ever(0), 0);
        CHECK.equal("ever(1)", y.ever(1), 2);
        CHECK.equal("together(1, 1)", y.together(1, 1), 1);
        CHECK.about("promises 19, 20: NONE when there is no reaction at all");
        SignalEngine z = CHECK.explores("in i;out o,p;emit p;" + DOUBT, 1);
        CHECK.none("ever(0)", z.ever(0));
        CHECK.none("ever(1)", z.ever(1));
        CHECK.none("together(0, 1)", z.together(0, 1));
        CHECK.none("together(1, 1)", z.together(1, 1));
    }

    private static void noSuchOutput() {
        CHECK.about("promises 19, 20: NONE when there is no such output");
        SignalEngine x = CHECK.explores("in a,b,c;out o,p;signal s in emit o;emit p;emit s;pause end", 2);
        CHECK.equal("ever(1), the last output", x.ever(1), 1);
        CHECK.none("ever(2)", x.ever(2));
        CHECK.none("ever(-1)", x.ever(-1));
        CHECK.equal("together(1, 0)", x.together(1, 0), 8);
        CHECK.none("together(2, 0)", x.together(2, 0));
        CHECK.none("together(0, 2)", x.together(0, 2));
        CHECK.none("together(2, 2)", x.together(2, 2));
        CHECK.none("together(-1, 0)", x.together(-1, 0));
        CHECK.none("together(0, -1)", x.together(0, -1));
        int[] far = {31, 32, 33, 64};
        for (int k : far) {
            CHECK.none("ever(" + k + ")", x.ever(k));
            CHECK.none("together(0, " + k + ")", x.together(0, k));
            CHECK.none("together(" + k + ", 0)", x.together(k, 0));
        }
        for (int k : FAR) {
            CHECK.none("ever(" + k + ")", x.ever(k));
            CHECK.none("together(0, " + k + ")", x.together(0, k));
            CHECK.none("together(" + k + ", 0)", x.together(k, 0));
        }
        CHECK.none("ever(0) without outputs", CHECK.explores("in a;pause", 2).ever(0));
        CHECK.none("together(0, 0) without outputs", CHECK.explores("in a;pause", 2).together(0, 0));
    }

    private static void mostOutputs() {
        CHECK.about("promises 17, 19, 20: 31 outputs");
        SignalEngine x = CHECK.explores("out " + Texts.names("o", 31) + ";emit o30;pause;emit o30;emit o0", 2);
        CHECK.equal("shows(256, 0)", x.shows(256, 0), 1 << 30);
        CHECK.equal("shows(1, 0)", x.shows(1, 0), (1 << 30) + 1);
        CHECK.equal("ever(30)", x.ever(30), 2);
        CHECK.equal("ever(29)", x.ever(29), 0);
        CHECK.equal("ever(0)", x.ever(0), 1);
        CHECK.none("ever(31)", x.ever(31));
        CHECK.equal("together(30, 0)", x.together(30, 0), 1);
        CHECK.none("together(31, 0)", x.together(31, 0));
    }

    private static void statesAlike() {
        CHECK.about("promise 21: how many reachable states there are no two of which are alike, at most");
        CHECK.equal("classes() of one state", CHECK.explores("nothing", 1).classes(), 1);
        CHECK.equal("classes() of what never shows anything", CHECK.explores("halt", 2).classes(), 1);
        CHECK.equal("classes() of a row", CHECK.explores(Texts.row("pause", ";", 8), 9).classes(), 9);
        CHECK.equal("classes() of a ring", CHECK.explores("loop " + Texts.row("pause", ";", 8) + " end", 9).classes(), 1);
        CHECK.about("promise 22: the least reachable state that is alike to a state");
        SignalEngine x = CHECK.explores("loop " + Texts.row("pause", ";", 8) + " end", 9);
        CHECK.equal("alike(256)", x.alike(256), 1);
        CHECK.equal("alike(128)", x.alike(128), 1);
        CHECK.equal("alike(1)", x.alike(1), 1);
        SignalEngine y = CHECK.explores("in i;out o;present i then pause;emit o else pause;emit o end", 3);
        CHECK.equal("classes()", y.classes(), 2);
        CHECK.equal("alike(1)", y.alike(1), 1);
        CHECK.equal("alike(2)", y.alike(2), 1);
        CHECK.equal("alike(256)", y.alike(256), 256);
    }

    private static void toldApart() {
        CHECK.about("terms, exploring: alike, unless one reacts and the other does not");
        SignalEngine x = CHECK.explores("in i;out o;present i then pause;halt else pause;present i then " + DOUBT
                + " end;halt end", 5);
        CHECK.equal("alike(1)", x.alike(1), 1);
        CHECK.equal("alike(4)", x.alike(4), 4);
        CHECK.equal("alike(8)", x.alike(8), 1);
        CHECK.equal("alike(256)", x.alike(256), 256);
        CHECK.about("terms, exploring: alike, unless they emit otherwise");
        SignalEngine y = CHECK.explores("in a,b,c,d;out o;present a then pause;halt else pause;"
                + "present a and b and c and d then emit o end;halt end", 5);
        CHECK.equal("alike(4), on the last inputs", y.alike(4), 4);
        CHECK.equal("alike(8)", y.alike(8), 1);
        CHECK.about("terms, exploring: alike, unless one ends and the other does not");
        SignalEngine z = CHECK.explores("in i;present i then pause else halt end", 3);
        CHECK.equal("classes()", z.classes(), 3);
        CHECK.about("terms, exploring: in any number of instants");
        SignalEngine w = CHECK.explores("in i;present i then pause;pause;pause else pause;pause;pause;pause end", 8);
        CHECK.equal("classes()", w.classes(), 5);
        CHECK.equal("alike(16): three to go, as 1", w.alike(16), 1);
        CHECK.equal("alike(8): four to go", w.alike(8), 8);
        CHECK.equal("alike(64): one to go", w.alike(64), 4);
        CHECK.about("terms, exploring: two that do not react are alike");
        SignalEngine v = CHECK.explores("in i;out o;present i then pause;" + DOUBT + " else pause;" + DOUBT + ";pause end", 3);
        CHECK.equal("alike(2)", v.alike(2), 1);
    }

    private static void noSuchState() {
        CHECK.about("promise 22: NONE when this is not reachable");
        SignalEngine x = CHECK.explores("pause", 2);
        CHECK.equal("alike(1)", x.alike(1), 1);
        int[] wrong = {0, 2, 3, 255};
        for (int state : wrong) {
            CHECK.none("alike(" + state + ")", x.alike(state));
        }
        for (int state : FAR) {
            CHECK.none("alike(" + state + ")", x.alike(state));
        }
    }
}

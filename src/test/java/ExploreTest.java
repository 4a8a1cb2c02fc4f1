/** Promises 13 to 22: explore, distance, path, next, shows, doubt, ever, together, classes, alike. */
final class ExploreTest {
    private static final Check CHECK = new Check("ExploreTest");

    public static void main(String[] args) {
        beforeExploring();
        exploring();
        limits();
        once();
        ways();
        reactions();
        doubts();
        outputs();
        alikeStates();
        manyStates();
        CHECK.finish();
    }

    private static void beforeExploring() {
        SignalEngine none = new SignalEngine();
        SignalEngine x = CHECK.reads("in i;out a;emit a;pause");
        CHECK.refusesState("explore() without a program", none::explore);
        for (SignalEngine y : new SignalEngine[] {none, x}) {
            CHECK.equal("distance(256)", y.distance(256), -1);
            CHECK.equal("path(256, 0)", y.path(256, 0), -1);
            CHECK.refusesState("next(256, 0)", () -> y.next(256, 0));
            CHECK.refusesState("next(-1, -1)", () -> y.next(-1, -1));
            CHECK.refusesState("shows(256, 0)", () -> y.shows(256, 0));
            CHECK.equal("doubt(0)", y.doubt(0), -1);
            CHECK.equal("ever(0)", y.ever(0), -1);
            CHECK.equal("together(0, 0)", y.together(0, 0), -1);
            CHECK.refusesState("classes()", y::classes);
            CHECK.equal("alike(256)", y.alike(256), -1);
            CHECK.equal("count(13)", y.count(13), 0);
            CHECK.equal("count(14)", y.count(14), 0);
        }
    }

    private static SignalEngine explored(String text, int states) {
        SignalEngine x = CHECK.explores(text, states);
        CHECK.equal("count(13) of " + text, x.count(13), states);
        return x;
    }

    private static void exploring() {
        explored("nothing", 1);
        explored("pause", 2);
        explored("halt", 2);
        explored("in i;present i then halt else halt end", 3);
        explored("in i;halt;present i then halt end", 2);
        explored("out a;present a then emit a end", 1);
        SignalEngine x = CHECK.reads("in i;out a;await i;emit a;pause");
        x.instant(1);
        x.instant(1);
        CHECK.equal("explore()", x.explore(), 3);
        CHECK.equal("it stays: reactions", x.count(10), 2);
        CHECK.equal("it stays: status(0)", x.status(0), 1);
        CHECK.equal("it stays: status(1)", x.status(1), 1);
        CHECK.holds("it stays: selected(1)", x.selected(1) && !x.selected(0));
        CHECK.equal("it goes on from there", x.instant(0), 1);
        CHECK.equal("explore() after the end", x.explore(), 3);
        CHECK.equal("it stays ended", x.count(11), 2);
        CHECK.refusesState("instant(0)", () -> x.instant(0));
        SignalEngine y = CHECK.reads("nothing");
        y.instant(0);
        CHECK.equal("explore() of what has ended", y.explore(), 1);
        CHECK.equal("it stays ended", y.count(11), 2);
    }

    private static void tooLarge(String text) {
        SignalEngine x = CHECK.reads(text);
        CHECK.equal("explore() of " + text, x.explore(), -1);
        CHECK.equal("count(13)", x.count(13), 0);
        CHECK.refusesState("next(256, 0)", () -> x.next(256, 0));
        CHECK.refusesState("go(256)", () -> x.go(256));
        CHECK.refusesState("lay()", x::lay);
        CHECK.equal("it still runs", x.instant(0) & 6, 0);
    }

    private static void limits() {
        explored(Texts.row("pause", ";", 8), 9);
        tooLarge(Texts.row("pause", ";", 9));
        explored("in a,b,c,d;await a and b and c and d", 2);
        tooLarge("in a,b,c,d,e;await a");
        explored("in a;present not not " + Texts.row("a", " or ", 149) + " then nothing end", 1);
        explored("in a;present not not " + Texts.row("a", " and ", 149) + " then nothing end;present a then nothing end", 1);
        tooLarge("in a;present not " + Texts.row("a", " or ", 150) + " then nothing end;present a then nothing end");
        explored("nothing||" + Texts.row("nothing", ";", 100), 1);
        tooLarge("trap T in nothing||" + Texts.row("nothing", ";", 100) + " end");
        SignalEngine x = CHECK.reads("in a;present not " + Texts.row("a", " or ", 150) + " then nothing end");
        CHECK.equal("300 pieces", x.count(1), 300);
        CHECK.equal("explore()", x.explore(), 1);
        SignalEngine y = CHECK.reads("nothing||" + Texts.row("nothing", ";", 100));
        CHECK.equal("weights of 300", y.count(6), 300);
    }

    private static void once() {
        SignalEngine x = explored("in i;out a;loop emit a;pause;present i then pause end end", 3);
        int multiplexers = x.lay();
        CHECK.equal("explore() once more", x.explore(), 3);
        CHECK.equal("the net stays", x.count(15), multiplexers);
        CHECK.equal("next(256, 0)", x.next(256, 0), 1);
        Check.feed(x, "pause");
        x.end(0);
        CHECK.equal("feeding leaves it", x.distance(1), 1);
        x.restart();
        CHECK.equal("restart() leaves it", x.distance(1), 1);
        x.instant(1);
        CHECK.equal("instant() leaves it", x.count(13), 3);
    }

    private static void ways() {
        SignalEngine x = explored("in a,b;pause;present a then present b then pause else pause end else pause end;pause", 6);
        int[][] due = {{256}, {1, 0}, {2, 0, 3}, {4, 0, 1}, {8, 0, 0}, {16, 0, 0, 0}};
        for (int[] row : due) {
            CHECK.equal("distance(" + row[0] + ")", x.distance(row[0]), row.length - 1);
            for (int i = 0; i + 1 < row.length; i++) {
                CHECK.equal("path(" + row[0] + ", " + i + ")", x.path(row[0], i), row[i + 1]);
            }
            CHECK.equal("path(" + row[0] + ", end)", x.path(row[0], row.length - 1), -1);
            CHECK.equal("path(" + row[0] + ", -1)", x.path(row[0], -1), -1);
            CHECK.equal("path(" + row[0] + ", MAX)", x.path(row[0], Integer.MAX_VALUE), -1);
        }
        int[] wrong = {-1, 0, 3, 255, 257, 258, Integer.MIN_VALUE, Integer.MAX_VALUE};
        for (int state : wrong) {
            CHECK.equal("distance(" + state + ")", x.distance(state), -1);
            CHECK.equal("path(" + state + ", 0)", x.path(state, 0), -1);
        }
        leastWays();
    }

    /** A state with ways of the same length: the one with less in the first instant counts. */
    private static void leastWays() {
        SignalEngine x = explored("in a;present a then pause;present a then pause end"
                + " else pause;present a else pause end end;halt", 6);
        CHECK.equal("distance(16)", x.distance(16), 2);
        CHECK.equal("path(16, 0)", x.path(16, 0), 0);
        CHECK.equal("path(16, 1)", x.path(16, 1), 1);
        SignalEngine y = explored("in a;present a then pause else pause end;halt", 4);
        CHECK.equal("path(4, 0)", y.path(4, 0), 0);
        CHECK.equal("path(4, 1)", y.path(4, 1), 0);
        SignalEngine z = explored("in a,b;present a then halt else present b then pause else pause;pause end end;halt", 6);
        CHECK.equal("distance(16)", z.distance(16), 2);
        CHECK.equal("path(16, 0)", z.path(16, 0), 2);
        CHECK.equal("path(16, 1)", z.path(16, 1), 0);
    }

    private static void reactions() {
        SignalEngine x = explored("in a,b;out p,q;loop present a then emit p end;present b then emit q end;pause;"
                + "present a and b then emit q;pause;present p else emit p;present p then pause end end end end", 3);
        int[] then = {1, 1, 1, 1};
        int[] shown = {0, 1, 2, 3};
        for (int inputs = 0; inputs < 4; inputs++) {
            CHECK.equal("next(256, " + inputs + ")", x.next(256, inputs), then[inputs]);
            CHECK.equal("shows(256, " + inputs + ")", x.shows(256, inputs), shown[inputs]);
        }
        CHECK.equal("next(1, 3)", x.next(1, 3), 2);
        CHECK.equal("shows(1, 3)", x.shows(1, 3), 2);
        CHECK.equal("next(2, 0)", x.next(2, 0), -1);
        CHECK.equal("shows(2, 0)", x.shows(2, 0), -1);
        SignalEngine y = explored("in a;out p;pause;present a then emit p end", 2);
        CHECK.equal("next(1, 0)", y.next(1, 0), 257);
        CHECK.equal("shows(1, 0)", y.shows(1, 0), 0);
        CHECK.equal("next(1, 1)", y.next(1, 1), 257);
        CHECK.equal("shows(1, 1)", y.shows(1, 1), 1);
        int[][] wrong = {{256, 2}, {256, -1}, {1, 2}, {1, 16}, {0, 0}, {2, 0}, {257, 0}, {-1, 0}, {255, 1},
            {Integer.MAX_VALUE, 0}, {Integer.MIN_VALUE, 0}, {256, Integer.MIN_VALUE}, {256, Integer.MAX_VALUE}};
        for (int[] pair : wrong) {
            CHECK.equal("next(" + pair[0] + ", " + pair[1] + ")", y.next(pair[0], pair[1]), -1);
            CHECK.equal("shows(" + pair[0] + ", " + pair[1] + ")", y.shows(pair[0], pair[1]), -1);
        }
    }

    private static void doubt(SignalEngine x, int distance, int state, int inputs) {
        CHECK.equal("doubt(0)", x.doubt(0), distance);
        CHECK.equal("doubt(1)", x.doubt(1), state);
        CHECK.equal("doubt(2)", x.doubt(2), inputs);
        CHECK.equal("doubt(3)", x.doubt(3), -1);
        CHECK.equal("doubt(-1)", x.doubt(-1), -1);
    }

    private static void doubts() {
        String bad = "present p else emit p end";
        SignalEngine x = explored("in a;out p;present a then emit p end;pause", 2);
        doubt(x, -1, -1, -1);
        CHECK.equal("count(14)", x.count(14), 2);
        SignalEngine y = explored("in a;out p;present a then " + bad + " end;pause", 2);
        doubt(y, 0, 256, 1);
        CHECK.equal("count(14)", y.count(14), 1);
        SignalEngine z = explored("in a,b;out p;present a then pause;pause;present b then " + bad + " end;pause"
                + " else present b then pause else pause end;pause;present a then " + bad + " end end", 7);
        doubt(z, 2, 2, 2);
        CHECK.equal("next(16, 1) waits too", z.next(32, 1), -1);
        CHECK.equal("count(14)", z.count(14), 5);
        SignalEngine w = explored("in a;out p;present a then pause else pause end;present a then " + bad + " end", 3);
        doubt(w, 1, 1, 1);
        CHECK.equal("count(14)", w.count(14), 1);
        SignalEngine v = explored("out p;" + bad, 1);
        doubt(v, 0, 256, 0);
        CHECK.equal("count(14)", v.count(14), 0);
    }

    private static void outputs() {
        SignalEngine x = explored("in a;out p,q,r,s;loop emit p;present a then emit q;emit s end;pause;emit p;present a then emit q end;pause end", 3);
        int[] ever = {2, 1, 0, 1};
        for (int k = 0; k < ever.length; k++) {
            CHECK.equal("ever(" + k + ")", x.ever(k), ever[k]);
        }
        int[][] times = {{6, 3, 0, 2}, {3, 3, 0, 2}, {0, 0, 0, 0}, {2, 2, 0, 2}};
        for (int j = 0; j < 4; j++) {
            for (int k = 0; k < 4; k++) {
                CHECK.equal("together(" + j + ", " + k + ")", x.together(j, k), times[j][k]);
            }
        }
        int[] wrong = {-1, 4, 31, 32, 64, Integer.MAX_VALUE, Integer.MIN_VALUE};
        for (int k : wrong) {
            CHECK.equal("ever(" + k + ")", x.ever(k), -1);
            CHECK.equal("together(0, " + k + ")", x.together(0, k), -1);
            CHECK.equal("together(" + k + ", 0)", x.together(k, 0), -1);
        }
        SignalEngine y = explored("out p;present p else emit p end", 1);
        CHECK.equal("ever(0) without a reaction", y.ever(0), -1);
        CHECK.equal("together(0, 0) without a reaction", y.together(0, 0), -1);
        SignalEngine z = explored("in a;out p,q;emit p;present a then present q else emit q end end", 1);
        CHECK.equal("ever(0): always where it reacts", z.ever(0), 2);
        CHECK.equal("ever(1): never where it reacts", z.ever(1), 0);
        SignalEngine w = explored("in a;pause", 2);
        CHECK.equal("ever(0) without outputs", w.ever(0), -1);
    }

    private static void alikeStates() {
        SignalEngine x = explored("in a;out p;present a then loop pause;emit p end else loop pause;emit p end end", 3);
        CHECK.equal("classes()", x.classes(), 2);
        CHECK.equal("alike(1)", x.alike(1), 1);
        CHECK.equal("alike(2)", x.alike(2), 1);
        CHECK.equal("alike(256)", x.alike(256), 256);
        CHECK.equal("alike(3)", x.alike(3), -1);
        CHECK.equal("alike(-1)", x.alike(-1), -1);
        CHECK.equal("alike(257)", x.alike(257), -1);
        SignalEngine y = explored("out p;pause;pause;pause;pause;emit p", 5);
        CHECK.equal("classes() of a chain", y.classes(), 5);
        SignalEngine z = explored("loop pause;pause;pause end", 4);
        CHECK.equal("classes() of what shows nothing", z.classes(), 1);
        CHECK.equal("alike(256) to all", z.alike(256), 1);
        CHECK.equal("alike(4)", z.alike(4), 1);
        SignalEngine w = explored("out p;loop emit p;pause end", 2);
        CHECK.equal("alike(256) to 1", w.alike(256), 1);
        SignalEngine v = explored("in a;out p;present a then pause;present p else emit p end else pause;pause end", 4);
        CHECK.equal("no reaction is told from an end", v.classes(), 4);
        SignalEngine u = explored("in a;out p;present a then pause;present p else emit p end else pause;present p then emit p end end", 3);
        CHECK.equal("no reaction is like no reaction", u.alike(2), 1);
        SignalEngine t = explored("pause;halt", 3);
        CHECK.equal("classes() of what never ends", t.classes(), 1);
        SignalEngine s = explored("in a,b;out p;present a then pause;present b then emit p end;pause"
                + " else pause;present b then emit p end;pause;pause end", 6);
        CHECK.equal("told apart by a later end", s.alike(4), 4);
        CHECK.equal("alike(8)", s.alike(8), 1 << 3);
        CHECK.equal("alike(16)", s.alike(16), 2);
    }

    /** All sets of eight pauses but the empty one. */
    private static void manyStates() {
        StringBuilder text = new StringBuilder("in a,b,c,d;out p;emit p;(present a then halt end||");
        String[] tests = {"b", "c", "d", "a or b", "b or c", "c or d"};
        for (String test : tests) {
            text.append("present ").append(test).append(" then halt end||");
        }
        SignalEngine x = CHECK.reads(text + "halt)");
        CHECK.equal("explore()", x.explore(), 17);
        SignalEngine y = CHECK.reads("in a,b,c,d;await a||await b||await c||await d||await a and b||await c and d||await a or c||await b or d");
        int states = y.explore();
        CHECK.holds("many states: " + states, states > 15);
        CHECK.equal("the first one", y.next(256, 0), 255);
        CHECK.equal("distance(255)", y.distance(255), 1);
    }
}

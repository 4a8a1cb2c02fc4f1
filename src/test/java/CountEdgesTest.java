/** The edges of promise 27: count. */
final class CountEdgesTest {
    private static final Check CHECK = new Check("CountEdgesTest");
    private static final int[] OTHERS = {-1, 16, -2, 17, Integer.MIN_VALUE, Integer.MAX_VALUE};

    public static void main(String[] args) {
        others();
        withoutProgram();
        smallest();
        greatest();
        localSignals();
        lengthOfTheTape();
        instantsWithReaction();
        goesOrHasEnded();
        selectedPauses();
        states();
        multiplexers();
        CHECK.finish();
    }

    private static void counts(SignalEngine x, int from, int... due) {
        for (int i = 0; i < due.length; i++) {
            CHECK.equal("count(" + (from + i) + ")", x.count(from + i), due[i]);
        }
    }

    private static void others() {
        CHECK.about("promise 27: NONE for others");
        SignalEngine x = new SignalEngine();
        SignalEngine y = CHECK.explores("out o;emit o;pause", 2);
        y.lay();
        for (int what : OTHERS) {
            CHECK.none("count(" + what + ") without a program", x.count(what));
            CHECK.none("count(" + what + ") with one", y.count(what));
        }
        CHECK.equal("count(0), the first one", y.count(0), 3);
        CHECK.holds("count(15), the last one", y.count(15) > 0);
    }

    private static void withoutProgram() {
        CHECK.about("promise 27: 0 .. 8, 10 .. 15 are 0 when there is no program");
        SignalEngine x = new SignalEngine();
        counts(x, 0, 0, 0, 0, 0, 0, 0, 0, 0, 0, 0, 0, 0, 0, 0, 0, 0);
        Check.feed(x, "in i;out o;signal s in await i;emit o;pause end");
        counts(x, 0, 0, 0, 0, 0, 0, 0, 0, 0, 0, 47, 0, 0, 0, 0, 0, 0);
        x.read();
        x.instant(0);
        x.explore();
        x.lay();
        for (int what = 0; what <= 15; what++) {
            CHECK.holds("count(" + what + ") with a program", x.count(what) > 0 == (what != 9));
        }
        Check.feed(x, ";");
        x.read();
        Check.feed(x, "abc");
        counts(x, 0, 0, 0, 0, 0, 0, 0, 0, 0, 0, 3, 0, 0, 0, 0, 0, 0);
    }

    private static void smallest() {
        CHECK.about("promise 27: 0 .. 8 of the smallest program");
        counts(CHECK.reads("nothing"), 0, 1, 0, 0, 0, 0, 0, 1, 0, 1);
        counts(CHECK.reads("pause"), 0, 1, 0, 0, 0, 0, 1, 1, 0, 2);
        counts(CHECK.reads("trap T in nothing end"), 0, 2, 0, 0, 0, 0, 0, 2, 1, 1);
    }

    private static void greatest() {
        CHECK.about("promise 27: 1 .. 7 at their limits");
        SignalEngine x = CHECK.reads("in " + Texts.names("i", 31) + ";out " + Texts.names("o", 31) + ";signal "
                + Texts.names("s", 338) + " in " + Texts.row("pause", "||", 200) + " end");
        counts(x, 2, 31, 31, 338, 200, 737);
        counts(CHECK.reads("in a;await not " + Texts.row("a", " or ", 500)), 0, 7, 1000);
        counts(CHECK.reads(Texts.times("trap T in ", 8) + "pause" + Texts.times(" end", 8)), 5, 1, 9, 8, 2);
        counts(CHECK.reads("nothing||" + Texts.row("nothing", ";", 400)), 0, 801, 0, 0, 0, 0, 0, 1200, 0, 1);
        CHECK.about("promise 27: 7 the greatest number of traps around a node");
        CHECK.equal("count(7)", CHECK.reads("in a;await a;trap T in trap U in nothing end end;pause").count(7), 2);
        CHECK.equal("count(7)", CHECK.reads("trap T in trap U in nothing end end;trap T in nothing end").count(7), 2);
    }

    private static void localSignals() {
        CHECK.about("promise 27: 4 local signals, all of them");
        CHECK.equal("count(4)", CHECK.reads("in i;out o;nothing").count(4), 0);
        CHECK.equal("count(4)", CHECK.reads("signal s in nothing end;signal s,t in signal s in nothing end end").count(4), 4);
    }

    private static void lengthOfTheTape() {
        CHECK.about("promise 27: 9 the length of the tape, with a program and without");
        SignalEngine x = new SignalEngine();
        CHECK.equal("count(9)", x.count(9), 0);
        x.feed(0, 0, 0, 0, 0);
        CHECK.equal("count(9) fed", x.count(9), 20);
        x.end(1);
        CHECK.equal("count(9) ended", x.count(9), 1);
        x.read();
        CHECK.equal("count(9) read", x.count(9), 0);
        SignalEngine y = CHECK.reads("pause");
        CHECK.equal("count(9) with a program", y.count(9), 0);
        y.feed(0, 0, 0, 0, 0);
        y.instant(0);
        y.restart();
        y.explore();
        y.lay();
        y.go(1);
        CHECK.equal("count(9) stays when the program runs", y.count(9), 20);
    }

    private static void instantsWithReaction() {
        CHECK.about("promise 27: 10 instants with a reaction since the start");
        SignalEngine x = CHECK.explores("in i;out o;pause;present i then present o else emit o end end;pause", 3);
        CHECK.equal("count(10) at the start", x.count(10), 0);
        x.instant(1);
        CHECK.equal("count(10)", x.count(10), 1);
        x.instant(1);
        CHECK.equal("count(10) without a reaction", x.count(10), 1);
        CHECK.refusesArgument("instant(2)", x, () -> x.instant(2));
        CHECK.equal("count(10) after one that throws", x.count(10), 1);
        x.instant(0);
        x.instant(0);
        CHECK.equal("count(10) with the last one", x.count(10), 3);
        CHECK.refusesState("instant(0)", x, () -> x.instant(0));
        x.go(2);
        CHECK.equal("count(10) after go()", x.count(10), 0);
        x.instant(0);
        CHECK.equal("count(10) since go()", x.count(10), 1);
        x.restart();
        CHECK.equal("count(10) after restart()", x.count(10), 0);
    }

    private static void goesOrHasEnded() {
        CHECK.about("promise 27: 11: 0 no program, 1 it goes, 2 it has ended");
        SignalEngine x = new SignalEngine();
        CHECK.equal("count(11) of a new object", x.count(11), 0);
        Check.feed(x, "pause");
        CHECK.equal("count(11) of a text that is not read", x.count(11), 0);
        x.read();
        CHECK.equal("count(11) of what has not started", x.count(11), 1);
        x.instant(0);
        CHECK.equal("count(11) of what goes", x.count(11), 1);
        x.instant(0);
        CHECK.equal("count(11) of what has ended", x.count(11), 2);
        x.explore();
        CHECK.equal("count(11) when it is explored", x.count(11), 2);
        x.go(1);
        CHECK.equal("count(11) after go()", x.count(11), 1);
        x.instant(0);
        CHECK.equal("count(11) ended again", x.count(11), 2);
        x.restart();
        CHECK.equal("count(11) after restart()", x.count(11), 1);
        x.read();
        CHECK.equal("count(11) after a fault", x.count(11), 0);
    }

    private static void selectedPauses() {
        CHECK.about("promise 27: 12 selected pauses");
        SignalEngine x = CHECK.explores("pause||pause||pause;pause", 3);
        CHECK.equal("count(12) at the start", x.count(12), 0);
        x.instant(0);
        CHECK.equal("count(12)", x.count(12), 3);
        x.instant(0);
        CHECK.equal("count(12)", x.count(12), 1);
        x.instant(0);
        CHECK.equal("count(12) after the end", x.count(12), 0);
        x.go(7);
        CHECK.equal("count(12) after go(7)", x.count(12), 3);
        x.go(256);
        CHECK.equal("count(12) after go(256)", x.count(12), 0);
        SignalEngine y = CHECK.reads(Texts.row("pause", "||", 200));
        y.instant(0);
        CHECK.equal("count(12): as many as there may be", y.count(12), 200);
    }

    private static void states() {
        CHECK.about("promise 27: 13 reachable states, 14 those that react on all inputs (0 when nothing is explored)");
        SignalEngine x = CHECK.reads("in i;out o;pause;present i then present o else emit o end end");
        counts(x, 13, 0, 0);
        x.instant(0);
        counts(x, 13, 0, 0);
        x.explore();
        counts(x, 13, 2, 1);
        Check.feed(x, "pause");
        counts(x, 13, 2, 1);
        x.read();
        counts(x, 13, 0, 0);
        SignalEngine y = CHECK.reads(Texts.row("pause", ";", 9));
        y.explore();
        counts(y, 13, 0, 0);
        counts(CHECK.explores("out o;present o else emit o end", 1), 13, 1, 0);
        counts(CHECK.explores(Texts.row("pause", ";", 8), 9), 13, 9, 9);
    }

    private static void multiplexers() {
        CHECK.about("promise 27: 15 multiplexers (0 when it is not laid out)");
        SignalEngine x = CHECK.reads("nothing");
        CHECK.equal("count(15)", x.count(15), 0);
        x.explore();
        CHECK.equal("count(15) of what is explored", x.count(15), 0);
        x.lay();
        CHECK.equal("count(15)", x.count(15), 13);
        x.explore();
        CHECK.equal("count(15) explored once more", x.count(15), 13);
        x.read();
        CHECK.equal("count(15) after a fault", x.count(15), 0);
    }
}

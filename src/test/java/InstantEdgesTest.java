/** The edges of promises 8 to 12 and of what an instant is: restart, instant, status, selected, go. */
final class InstantEdgesTest {
    private static final Check CHECK = new Check("InstantEdgesTest");
    private static final int[] FAR = {Integer.MIN_VALUE, -2, -1, 1 << 20, Integer.MAX_VALUE};
    private static final String DOUBT = "present o else emit o end";

    public static void main(String[] args) {
        restartThrows();
        restartCounts();
        restartPutsAtTheStart();
        instantAnswers();
        instantThrows();
        everyNumberOfInputs();
        endedBeforeWrongInputs();
        statusOfAll();
        statusBefore();
        statusUnknown();
        statusOfNone();
        selectedOrNot();
        selectedOfNone();
        goThrows();
        goToAll();
        goIsAStart();
        truthsOfKnown();
        truthsOfUnknown();
        starting();
        resuming();
        suspending();
        whatMakesAReaction();
        localSignalsAskedAnew();
        startedAnewInALoop();
        exitsClear();
        endAndStay();
        CHECK.finish();
    }

    /** Runs instants from the start; each row is inputs, answer, present outputs, selected pauses, as bits. */
    private static SignalEngine runs(String text, int[]... rows) {
        SignalEngine x = CHECK.reads(text);
        for (int i = 0; i < rows.length; i++) {
            CHECK.equal(text + ", instant " + i, x.instant(rows[i][0]), rows[i][1]);
            int outputs = 0;
            for (int k = 0; k < x.count(3) && rows[i][1] != 2; k++) {
                outputs |= x.status(x.count(2) + k) << k;
            }
            int pauses = 0;
            for (int k = 0; k < x.count(5); k++) {
                pauses |= (x.selected(k) ? 1 : 0) << k;
            }
            CHECK.equal(text + ", outputs of " + i, outputs, rows[i][2]);
            CHECK.equal(text + ", pauses of " + i, pauses, rows[i][3]);
            CHECK.equal(text + ", count(12) of " + i, x.count(12), Integer.bitCount(rows[i][3]));
        }
        return x;
    }

    private static int[] row(int... numbers) {
        return numbers;
    }

    private static void restartThrows() {
        CHECK.about("promise 8: IllegalStateException when there is no program");
        SignalEngine x = new SignalEngine();
        CHECK.refusesState("restart() of a new object", x, x::restart);
        Check.feed(x, "pause");
        CHECK.refusesState("restart() with a text that is not read", x, x::restart);
        CHECK.equal("read()", x.read(), 0);
        CHECK.equal("restart()", x.restart(), 0);
        x.read();
        CHECK.refusesState("restart() after a fault", x, x::restart);
    }

    private static void restartCounts() {
        CHECK.about("promise 8: how many instants with a reaction there were since its start or the latest go()");
        SignalEngine x = CHECK.reads("in i;out o;loop pause;present i then " + DOUBT + " end end");
        CHECK.equal("restart() at the start", x.restart(), 0);
        x.instant(0);
        CHECK.equal("restart() after one", x.restart(), 1);
        x.instant(1);
        x.instant(0);
        CHECK.equal("no reaction", x.instant(1), 2);
        x.instant(0);
        CHECK.refusesArgument("instant(2)", () -> x.instant(2));
        CHECK.equal("restart(): those with a reaction", x.restart(), 3);
        CHECK.equal("restart() at once again", x.restart(), 0);
        x.explore();
        x.instant(0);
        x.instant(0);
        x.go(1);
        CHECK.equal("restart() behind go()", x.restart(), 0);
        x.instant(0);
        x.go(1);
        x.instant(0);
        x.instant(0);
        CHECK.equal("restart() two behind go()", x.restart(), 2);
        SignalEngine y = CHECK.reads("pause");
        y.instant(0);
        y.instant(0);
        CHECK.equal("restart(): the instant in which it ends counts", y.restart(), 2);
    }

    private static void restartPutsAtTheStart() {
        CHECK.about("promise 8: the program is at its start again");
        SignalEngine x = CHECK.explores("in i;out o;emit o;pause;pause", 3);
        x.lay();
        String start = Picture.of(x);
        x.instant(1);
        CHECK.holds("it is elsewhere", !Picture.of(x).equals(start));
        x.restart();
        CHECK.holds("all is as at the start, explored and laid out too", Picture.of(x).equals(start));
        x.instant(1);
        x.instant(1);
        x.instant(1);
        CHECK.equal("it has ended", x.count(11), 2);
        CHECK.equal("restart()", x.restart(), 3);
        CHECK.holds("all is as at the start, after the end", Picture.of(x).equals(start));
        CHECK.equal("instant(0) starts", x.instant(0), 0);
        CHECK.equal("status(1)", x.status(1), 1);
        x.go(2);
        x.restart();
        CHECK.holds("all is as at the start, after go()", Picture.of(x).equals(start));
    }

    private static void instantAnswers() {
        CHECK.about("promise 9: 0 it reacts and goes on, 1 it reacts and has ended, 2 there is no reaction");
        SignalEngine x = CHECK.reads("in i;out o;pause;present i then " + DOUBT + " end");
        CHECK.equal("instant(1)", x.instant(1), 0);
        CHECK.equal("count(11)", x.count(11), 1);
        CHECK.equal("instant(1)", x.instant(1), 2);
        CHECK.equal("count(11)", x.count(11), 1);
        CHECK.equal("instant(1) again", x.instant(1), 2);
        CHECK.equal("instant(0)", x.instant(0), 1);
        CHECK.equal("count(11)", x.count(11), 2);
        SignalEngine y = CHECK.reads("in i;out o;present i then " + DOUBT + " end");
        CHECK.equal("no reaction in the first instant", y.instant(1), 2);
        CHECK.equal("it has not started", y.count(10), 0);
        CHECK.equal("it starts", y.instant(0), 1);
    }

    private static void instantThrows() {
        CHECK.about("promise 9: IllegalStateException when there is no program, or it has ended");
        SignalEngine x = new SignalEngine();
        CHECK.refusesState("instant(0) without a program", x, () -> x.instant(0));
        SignalEngine y = CHECK.reads("in i;out o;present i then emit o end");
        CHECK.equal("instant(1)", y.instant(1), 1);
        CHECK.refusesState("instant(0) after the end", y, () -> y.instant(0));
        CHECK.refusesState("instant(1) after the end", y, () -> y.instant(1));
        CHECK.equal("status(1) tells of the last instant still", y.status(1), 1);
        CHECK.about("promise 9: else IllegalArgumentException when inputs has a bit of an input that there is not");
        SignalEngine z = CHECK.reads("in i,j;out o;emit o;pause");
        int[] wrong = {4, 5, 7, 8, 1 << 30, Integer.MIN_VALUE, Integer.MIN_VALUE + 1, -1, Integer.MAX_VALUE};
        for (int inputs : wrong) {
            CHECK.refusesArgument("instant(" + inputs + ") at the start", z, () -> z.instant(inputs));
        }
        CHECK.equal("instant(3)", z.instant(3), 0);
        for (int inputs : wrong) {
            CHECK.refusesArgument("instant(" + inputs + ") later", z, () -> z.instant(inputs));
        }
        CHECK.equal("status(1) of instant(3)", z.status(1), 1);
        CHECK.equal("it goes on from where it was", z.instant(0), 1);
    }

    /** For each number of inputs: the greatest inputs, and the least that are too great. */
    private static void everyNumberOfInputs() {
        CHECK.about("promise 9: bit k: input k is present; a bit of an input that there is not");
        for (int many = 0; many <= 31; many++) {
            String head = many == 0 ? "" : "in " + Texts.names("i", many) + ";";
            SignalEngine x = CHECK.reads(head + "halt");
            int tooGreat = 1 << many;
            CHECK.refusesArgument("instant(" + tooGreat + ")", () -> x.instant(tooGreat));
            CHECK.refusesArgument("instant(-1) with " + many, () -> x.instant(-1));
            CHECK.equal("instant(all of " + many + ")", x.instant((int) ((1L << many) - 1)), 0);
            for (int k = 0; k < many; k++) {
                CHECK.equal("status(" + k + ")", x.status(k), 1);
            }
            CHECK.equal("instant(0)", x.instant(0), 0);
            for (int k = 0; k < many; k++) {
                x.instant(1 << k);
                CHECK.equal("status(" + k + ") alone", x.status(k), 1);
                CHECK.equal("status of the next", x.status((k + 1) % many), many == 1 ? 1 : 0);
            }
        }
    }

    private static void endedBeforeWrongInputs() {
        CHECK.about("promise 9: IllegalStateException before IllegalArgumentException");
        SignalEngine x = new SignalEngine();
        CHECK.refusesState("instant(1) without a program", x, () -> x.instant(1));
        CHECK.refusesState("instant(-1) without a program", x, () -> x.instant(-1));
        SignalEngine y = CHECK.reads("in i;nothing");
        CHECK.refusesArgument("instant(2) while it goes", y, () -> y.instant(2));
        y.instant(1);
        CHECK.refusesState("instant(2) after the end", y, () -> y.instant(2));
        CHECK.refusesState("instant(-1) after the end", y, () -> y.instant(-1));
        y.restart();
        CHECK.refusesArgument("instant(2) after restart()", y, () -> y.instant(2));
        CHECK.equal("instant(0)", y.instant(0), 1);
    }

    private static void statusOfAll() {
        CHECK.about("promise 10: of signal k, an input or output, in the latest instant since the start");
        SignalEngine x = CHECK.reads("in i,j;out o,p;signal s in emit s;present i then emit o end;emit p;pause end");
        x.instant(1);
        int[] due = {1, 0, 1, 1};
        for (int k = 0; k < due.length; k++) {
            CHECK.equal("status(" + k + ")", x.status(k), due[k]);
        }
        CHECK.about("promise 10: 0 for another k");
        CHECK.equal("status(4), a local signal that was present", x.status(4), 0);
        CHECK.equal("status(5)", x.status(5), 0);
        CHECK.equal("status(-1)", x.status(-1), 0);
        for (int k : FAR) {
            CHECK.equal("status(" + k + ")", x.status(k), 0);
        }
        CHECK.about("promise 10: the latest instant");
        x.instant(2);
        int[] then = {0, 1, 0, 0};
        for (int k = 0; k < then.length; k++) {
            CHECK.equal("status(" + k + ") then", x.status(k), then[k]);
        }
        CHECK.equal("it has ended", x.count(11), 2);
    }

    private static void statusBefore() {
        CHECK.about("promise 10: 0 before");
        SignalEngine x = CHECK.explores("in i;out o;emit o;pause", 2);
        CHECK.equal("status(0)", x.status(0), 0);
        CHECK.equal("status(1)", x.status(1), 0);
        x.instant(1);
        CHECK.equal("status(1) after an instant", x.status(1), 1);
        x.restart();
        CHECK.equal("status(0) after restart()", x.status(0), 0);
        CHECK.equal("status(1) after restart()", x.status(1), 0);
        x.instant(1);
        x.go(256);
        CHECK.equal("status(0) after go(256)", x.status(0), 0);
        CHECK.equal("status(1) after go(256)", x.status(1), 0);
        x.instant(1);
        Check.feed(x, "in i;out o;emit o");
        CHECK.equal("status(1) while the tape is fed", x.status(1), 1);
        x.read();
        CHECK.equal("status(0) after read()", x.status(0), 0);
        CHECK.equal("status(1) after read()", x.status(1), 0);
    }

    private static void statusUnknown() {
        CHECK.about("promise 10: 2 unknown (in one without a reaction)");
        SignalEngine x = CHECK.reads("in i;out o,p,q;emit p;present i then " + DOUBT + " end");
        CHECK.equal("instant(1)", x.instant(1), 2);
        int[] due = {1, 2, 1, 0};
        for (int k = 0; k < due.length; k++) {
            CHECK.equal("status(" + k + ")", x.status(k), due[k]);
        }
        CHECK.equal("instant(0)", x.instant(0), 1);
        CHECK.equal("status(1) with a reaction", x.status(1), 0);
        SignalEngine y = CHECK.reads("out o,p;signal s in present s then emit s;emit p end end;emit o");
        CHECK.equal("a local signal in doubt", y.instant(0), 2);
        CHECK.equal("status(0)", y.status(0), 2);
        CHECK.equal("status(1)", y.status(1), 2);
        y.restart();
        CHECK.equal("status(1) after restart()", y.status(1), 0);
    }

    private static void statusOfNone() {
        CHECK.about("promise 10: 0 without a program");
        SignalEngine x = CHECK.reads("out o;emit o");
        x.instant(0);
        CHECK.equal("status(0)", x.status(0), 1);
        x.read();
        CHECK.equal("status(0) after a fault", x.status(0), 0);
        CHECK.equal("status(0) of a new object", new SignalEngine().status(0), 0);
    }

    private static void selectedOrNot() {
        CHECK.about("promise 11: whether pause k is selected");
        SignalEngine x = CHECK.reads("in i;out o;pause||pause;present i then " + DOUBT + " end;pause");
        CHECK.holds("not before", !x.selected(0) && !x.selected(1) && !x.selected(2));
        x.instant(0);
        CHECK.holds("the first two", x.selected(0) && x.selected(1) && !x.selected(2));
        x.instant(1);
        CHECK.holds("the same without a reaction", x.selected(0) && x.selected(1) && !x.selected(2));
        x.instant(0);
        CHECK.holds("the last one", !x.selected(0) && !x.selected(1) && x.selected(2));
        CHECK.about("promise 11: false when no program goes");
        x.instant(0);
        CHECK.holds("none after the end", !x.selected(0) && !x.selected(1) && !x.selected(2));
        x.restart();
        CHECK.holds("none after restart()", !x.selected(0) && !x.selected(1) && !x.selected(2));
        x.instant(0);
        x.read();
        CHECK.holds("none after a fault", !x.selected(0) && !x.selected(1) && !x.selected(2));
    }

    private static void selectedOfNone() {
        CHECK.about("promise 11: false when there is none such");
        SignalEngine x = CHECK.reads(Texts.row("pause", "||", 200));
        x.instant(0);
        CHECK.holds("selected(0)", x.selected(0));
        CHECK.holds("selected(199)", x.selected(199));
        CHECK.holds("selected(200)", !x.selected(200));
        CHECK.holds("selected(-1)", !x.selected(-1));
        for (int k : FAR) {
            CHECK.holds("selected(" + k + ")", !x.selected(k));
        }
        SignalEngine y = CHECK.reads("in i;present i then nothing end");
        CHECK.holds("selected(0) without pauses", !y.selected(0));
    }

    private static void goThrows() {
        CHECK.about("promise 12: IllegalStateException when the program was not explored");
        SignalEngine x = CHECK.reads("in i;out o;emit o;pause;present i then pause end");
        x.instant(1);
        CHECK.refusesState("go(256)", x, () -> x.go(256));
        CHECK.refusesState("go(1)", x, () -> x.go(1));
        CHECK.about("promise 12: IllegalStateException before IllegalArgumentException");
        CHECK.refusesState("go(257)", x, () -> x.go(257));
        CHECK.refusesState("go(-1)", x, () -> x.go(-1));
        CHECK.about("promise 12: else IllegalArgumentException when it is not reachable");
        CHECK.equal("explore()", x.explore(), 3);
        int[] wrong = {0, 3, 4, 255, 257, 258, 512, 256 + 1, -256};
        for (int state : wrong) {
            CHECK.refusesArgument("go(" + state + ")", x, () -> x.go(state));
        }
        for (int state : FAR) {
            CHECK.refusesArgument("go(" + state + ")", x, () -> x.go(state));
        }
        CHECK.about("promise 12: IllegalStateException when the program is too large to be explored");
        SignalEngine y = CHECK.reads(Texts.row("pause", ";", 9));
        CHECK.none("explore()", y.explore());
        CHECK.refusesState("go(256)", y, () -> y.go(256));
        CHECK.about("promise 12: IllegalStateException when another program is read");
        Check.feed(x, "pause");
        x.go(1);
        x.read();
        CHECK.refusesState("go(256)", x, () -> x.go(256));
    }

    private static void goToAll() {
        CHECK.about("promise 12: goes to a state (a number as in exploring)");
        SignalEngine x = CHECK.explores("in a,b,c,d;" + Texts.row("pause", "||", 5) + "||present a then pause end"
                + "||present b then pause end||present c then pause end", 9);
        for (int state = 31; state <= 255; state += 32) {
            x.go(state);
            for (int k = 0; k < 8; k++) {
                CHECK.holds("selected(" + k + ") at " + state, x.selected(k) == ((state >> k & 1) == 1));
            }
            CHECK.equal("count(12)", x.count(12), Integer.bitCount(state));
            CHECK.equal("it ends from there", x.instant(0), 1);
        }
        x.go(256);
        CHECK.equal("count(12) at first", x.count(12), 0);
        CHECK.equal("instant(7) at first", x.instant(7), 0);
        CHECK.equal("count(12) then", x.count(12), 8);
    }

    private static void goIsAStart() {
        CHECK.about("promise 12: with no instant since: statuses and count(10) are 0 then, as at the start");
        SignalEngine x = CHECK.explores("in i;out o;loop emit o;pause end", 2);
        x.lay();
        String start = Picture.of(x);
        x.instant(1);
        x.instant(1);
        x.go(1);
        CHECK.equal("status(0)", x.status(0), 0);
        CHECK.equal("status(1)", x.status(1), 0);
        CHECK.equal("count(10)", x.count(10), 0);
        CHECK.equal("count(11)", x.count(11), 1);
        CHECK.holds("selected(0)", x.selected(0));
        x.instant(0);
        CHECK.equal("count(10)", x.count(10), 1);
        x.go(256);
        CHECK.holds("go(256) is the start", Picture.of(x).equals(start));
        SignalEngine y = CHECK.explores("out o;pause;emit o", 2);
        y.instant(0);
        y.instant(0);
        CHECK.refusesState("instant(0) after the end", () -> y.instant(0));
        y.go(1);
        CHECK.equal("count(11) after go()", y.count(11), 1);
        CHECK.equal("instant(0) from there", y.instant(0), 1);
        CHECK.equal("status(0)", y.status(0), 1);
        CHECK.equal("count(10)", y.count(10), 1);
    }

    private static void truthsOfKnown() {
        CHECK.about("terms, instant: a signal is true or false as it is present or absent; not, and, or");
        String[] tests = {"i", "j", "not i", "i and j", "i or j"};
        int[][] due = {{0, 1, 0, 1}, {0, 0, 1, 1}, {1, 0, 1, 0}, {0, 0, 0, 1}, {0, 1, 1, 1}};
        for (int t = 0; t < tests.length; t++) {
            for (int inputs = 0; inputs < 4; inputs++) {
                runs("in i,j;out o;present " + tests[t] + " then emit o end", row(inputs, 1, due[t][inputs], 0));
            }
        }
    }

    private static void truthsOfUnknown() {
        CHECK.about("terms, instant: an or with one that is true is true, whatever else is unknown");
        runs("in i;out o;present i or o else emit o end", row(1, 1, 0, 0));
        runs("in i;out o;present o or i else emit o end", row(1, 1, 0, 0));
        runs("in i;out o;present i or o else emit o end", row(0, 2, 0, 0));
        runs("in i;out o;present o or i else emit o end", row(0, 2, 0, 0));
        CHECK.about("terms, instant: an and with one that is false is false, whatever else is unknown");
        runs("in i;out o;present i and o then emit o end", row(0, 1, 0, 0));
        runs("in i;out o;present o and i then emit o end", row(0, 1, 0, 0));
        runs("in i;out o;present i and o then emit o end", row(1, 2, 0, 0));
        runs("in i;out o;present o and i then emit o end", row(1, 2, 0, 0));
        CHECK.about("terms, instant: not, and, or of what is unknown");
        runs("out o;present not o then emit o end", row(0, 2, 0, 0));
        runs("out o;present not not o then emit o end", row(0, 2, 0, 0));
        runs("out o;present o or not o then emit o end", row(0, 2, 0, 0));
        runs("out o;present o and not o then emit o end", row(0, 2, 0, 0));
        runs("in i;out o;present not(i or o)then emit o end", row(1, 1, 0, 0));
        runs("in i;out o;present not(i and o)else emit o end", row(0, 1, 0, 0));
    }

    private static void starting() {
        CHECK.about("terms, starting: present: if its E is not known, both can, not for sure");
        runs("out o,p;present o then emit p else emit p end;present p then emit o end", row(0, 2, 0, 0));
        runs("out o,p;present o then emit p else emit p end", row(0, 1, 2, 0));
        CHECK.about("terms, starting: sequence: the second one starts for sure, if the first one must end with 0");
        runs("out o,p;emit o;emit p;present p then nothing end", row(0, 1, 3, 0));
        CHECK.about("terms, starting: sequence: else, if it can, not for sure");
        runs("out o;present o then pause end;emit o", row(0, 2, 0, 0));
        CHECK.about("terms, starting: sequence: if it can't, not at all");
        runs("out o,p;trap T in exit T;emit o end;present o else emit p end", row(0, 1, 2, 0));
        runs("out o,p;(pause;emit o)||present o else emit p end", row(0, 0, 2, 1), row(0, 1, 1, 0));
        CHECK.about("terms, starting: both: the greater code, if both have one that must be");
        runs("out o;(nothing||nothing);emit o", row(0, 1, 1, 0));
        runs("out o;(nothing||pause);emit o", row(0, 0, 0, 1), row(0, 1, 1, 0));
        runs("out o;(present o then nothing end||nothing);emit o", row(0, 2, 0, 0));
        runs("out o;(nothing||present o then nothing end);emit o", row(0, 2, 0, 0));
        CHECK.about("terms, starting: trap: 0 in place of 2, 1 less for greater codes");
        runs("out o,p;trap T in trap U in exit U end;emit o end;emit p", row(0, 1, 3, 0));
        runs("out o,p;trap T in trap U in exit T end;emit o end;emit p", row(0, 1, 2, 0));
        runs("out o,p;trap T in trap U in exit T||exit U end;emit o end;emit p", row(0, 1, 2, 0));
        runs("out o,p;trap T in trap U in pause end;emit o end;emit p", row(0, 0, 0, 1), row(0, 1, 3, 0));
    }

    private static void resuming() {
        CHECK.about("terms, resuming: a selected pause ends with 0");
        runs("out o;pause;emit o", row(0, 0, 0, 1), row(0, 1, 1, 0));
        CHECK.about("terms, resuming: sequence: if pauses of the first one are selected, that resumes; else the second");
        runs("out o,p;pause;emit o;(pause;pause);emit p", row(0, 0, 0, 1), row(0, 0, 1, 2), row(0, 0, 0, 4), row(0, 1, 2, 0));
        CHECK.about("terms, resuming: present: the one that has selected pauses resumes, whatever its E says then");
        runs("in i;out o,p;present i then pause;emit o else pause;emit p end", row(1, 0, 0, 1), row(0, 1, 1, 0));
        runs("in i;out o,p;present i then pause;emit o else pause;emit p end", row(0, 0, 0, 2), row(1, 1, 2, 0));
        CHECK.about("terms, resuming: both: one without selected pauses has ended (0)");
        runs("out o;(pause||pause;pause);emit o", row(0, 0, 0, 3), row(0, 0, 0, 4), row(0, 1, 1, 0));
        runs("out o;(pause;pause||pause);emit o", row(0, 0, 0, 5), row(0, 0, 0, 2), row(0, 1, 1, 0));
        runs("out o;(nothing||pause);emit o", row(0, 0, 0, 1), row(0, 1, 1, 0));
        CHECK.about("terms, resuming: loop: when its statement ends with 0, it starts anew");
        runs("out o,p;loop emit o;pause;emit p end", row(0, 0, 1, 1), row(0, 0, 3, 1), row(0, 0, 3, 1));
        runs("out o;loop pause;pause;emit o end", row(0, 0, 0, 1), row(0, 0, 0, 2), row(0, 0, 1, 1));
    }

    private static void suspending() {
        CHECK.about("terms, resuming: suspend: if its E is true, all in it stays as it is (code 1)");
        runs("in i;out o;(suspend pause;pause when i end||nothing);emit o", row(1, 0, 0, 1), row(1, 0, 0, 1), row(0, 0, 0, 2),
                row(1, 0, 0, 2), row(0, 1, 1, 0));
        runs("in i;trap T in suspend pause when i end end;pause", row(0, 0, 0, 1), row(1, 0, 0, 1), row(0, 0, 0, 2));
        runs("in i;out o,p;suspend pause;emit o when i end||pause;present o else emit p end", row(0, 0, 0, 3), row(1, 0, 2, 1),
                row(0, 1, 1, 0));
        CHECK.about("terms, resuming: suspend: if it is false, its statement resumes");
        runs("in i;out o;trap T in trap U in suspend pause;exit T when i end||pause;exit U end;emit o end",
                row(0, 0, 0, 3), row(0, 1, 0, 0));
        runs("in i;out o;trap T in trap U in suspend pause;exit T when i end||pause;exit U end;emit o end",
                row(0, 0, 0, 3), row(1, 1, 1, 0));
        CHECK.about("terms, resuming: suspend: if it is unknown, it can be both, not for sure");
        runs("out o;suspend pause;emit o when o end", row(0, 0, 0, 1), row(0, 2, 0, 1));
        runs("out o;suspend pause when o end;emit o", row(0, 0, 0, 1), row(0, 2, 0, 1));
        runs("out o;trap T in trap U in suspend pause;exit T when o end||pause;exit U end;emit o end",
                row(0, 0, 0, 3), row(0, 2, 0, 3));
        runs("out o,p;suspend pause;emit p when o end||pause;present p then emit o end", row(0, 0, 0, 3), row(0, 2, 0, 3));
    }

    private static void whatMakesAReaction() {
        CHECK.about("terms, instant: there is a reaction if no output is unknown in the end");
        runs("out o,p;emit o;present o then emit p end", row(0, 1, 3, 0));
        runs("out o,p;present o then emit p end;emit o", row(0, 2, 0, 0));
        runs("out o;present o then emit o end", row(0, 2, 0, 0));
        runs("out o;present o then nothing else nothing end;emit o", row(0, 2, 0, 0));
        runs("out o;present o then nothing else nothing end||emit o", row(0, 1, 1, 0));
        CHECK.about("terms, instant: and no local signal that runs for sure");
        runs("in i;present i then signal s in present s then emit s end end end", row(0, 1, 0, 0));
        runs("in i;present i then signal s in present s then emit s end end end", row(1, 2, 0, 0));
        runs("in i;pause;present i then signal s in present s then emit s end end end", row(1, 0, 0, 1), row(1, 2, 0, 1),
                row(0, 1, 0, 0));
        runs("trap T in exit T;signal s in present s then emit s end end end", row(0, 1, 0, 0));
        CHECK.about("terms, instant: and the whole program has a code that it must end with");
        runs("signal s in present s then pause end end", row(0, 1, 0, 0));
        runs("out o;pause;present o then pause end", row(0, 0, 0, 1), row(0, 1, 0, 0));
    }

    private static void localSignalsAskedAnew() {
        CHECK.about("terms, instant: a local signal that must be emitted is present; what it does is asked anew");
        runs("out o,p;signal s in present s then emit o else emit p end||emit s end", row(0, 1, 1, 0));
        CHECK.about("terms, instant: one that can't be emitted is absent; what it does is asked anew");
        runs("out o,p;signal s in present s then emit o else emit p end||nothing end", row(0, 1, 2, 0));
        runs("out o,p;signal s,t in present s then emit t end;present t then emit o else emit p end end", row(0, 1, 2, 0));
        CHECK.about("terms, instant: one that can be emitted, but not for sure, stays unknown");
        runs("out o;signal s in present s then emit s end;emit o end", row(0, 2, 0, 0));
        CHECK.about("terms, instant: the outputs are found as local signals are");
        runs("out o,p,q;present o then emit p else emit q end||emit o", row(0, 1, 3, 0));
        runs("out o,p,q;present o then emit p else emit q end", row(0, 1, 4, 0));
    }

    private static void startedAnewInALoop() {
        CHECK.about("terms, instant: a loop starts anew, local signals in it have a status of their own then");
        runs("out o,p;loop signal s in present s then emit o else emit p end;pause;emit s end end",
                row(0, 0, 2, 1), row(0, 0, 2, 1));
        runs("out o,p;loop signal s in (pause;emit s)||present s then emit o end;pause;present s then emit p end end end",
                row(0, 0, 0, 3), row(0, 0, 2, 3));
        CHECK.about("terms, instant: a signal around the loop has one status");
        runs("out o;signal s in loop present s then emit o end;pause;emit s end end", row(0, 0, 0, 1), row(0, 0, 1, 1));
        CHECK.about("terms, instant: a suspend that starts does not ask its E");
        runs("in i;out o;suspend emit o;pause;emit o when i end", row(1, 0, 1, 1), row(1, 0, 0, 1), row(0, 1, 1, 0));
        runs("out o;suspend emit o;pause when o end", row(0, 0, 1, 1), row(0, 1, 0, 0));
    }

    private static void exitsClear() {
        CHECK.about("terms, selected: of all that was in a trap to which an exit came nothing is selected");
        runs("trap T in pause;exit T||halt end;pause", row(0, 0, 0, 3), row(0, 0, 0, 4));
        runs("trap T in pause||exit T end;pause", row(0, 0, 0, 2), row(0, 1, 0, 0));
        CHECK.about("terms, selected: what stayed in a suspend in that trap too");
        runs("in i;trap T in suspend halt when i end||pause;exit T end;pause", row(0, 0, 0, 3), row(1, 0, 0, 4));
        CHECK.about("terms, selected: so far as it ran or stayed before it starts anew in a loop");
        runs("in i;loop trap T in suspend halt when i end||pause;exit T end end", row(0, 0, 0, 3), row(1, 0, 0, 3));
        runs("in i;loop trap T in (present i then halt end)||pause;exit T end end", row(1, 0, 0, 3), row(0, 0, 0, 2),
                row(1, 0, 0, 3));
        CHECK.about("terms, selected: those outside of the trap stay");
        runs("halt||trap T in pause;exit T||halt end;pause", row(0, 0, 0, 7), row(0, 0, 0, 9));
        CHECK.about("terms, selected: an exit over a trap within");
        runs("trap T in trap U in pause;exit T||halt end||halt end;pause", row(0, 0, 0, 7), row(0, 0, 0, 8));
        runs("trap T in trap U in pause;exit U||halt end||halt end;pause", row(0, 0, 0, 7), row(0, 0, 0, 4));
    }

    private static void endAndStay() {
        CHECK.about("terms, selected: with code 0 the program has ended");
        SignalEngine x = runs("nothing", row(0, 1, 0, 0));
        CHECK.equal("count(11)", x.count(11), 2);
        CHECK.about("terms, selected: without a reaction the program stays as it is (status() tells of that instant)");
        SignalEngine y = runs("in i;out o;emit o;pause;present i then " + DOUBT + " end;pause", row(0, 0, 1, 1), row(1, 2, 0, 1),
                row(1, 2, 0, 1));
        CHECK.equal("status(0)", y.status(0), 1);
        CHECK.equal("status(1)", y.status(1), 2);
        CHECK.equal("count(10)", y.count(10), 1);
        CHECK.equal("it goes on from there", y.instant(0), 0);
        CHECK.holds("selected(1)", y.selected(1) && !y.selected(0));
        CHECK.equal("count(10)", y.count(10), 2);
    }
}

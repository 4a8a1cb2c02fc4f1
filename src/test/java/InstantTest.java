/** Promises 8 to 12: restart, instant, status, selected, go. */
final class InstantTest {
    private static final Check CHECK = new Check("InstantTest");

    public static void main(String[] args) {
        statements();
        tests();
        presence();
        withoutReaction();
        localSignals();
        traps();
        suspending();
        derived();
        restarting();
        throwing();
        statuses();
        selecting();
        going();
        large();
        CHECK.finish();
    }

    /**
     * Runs instants from the start. Each row is inputs, answer, then present outputs as bits and
     * selected pauses as bits (both left out where there is no reaction).
     */
    private static SignalEngine runs(String text, int[]... rows) {
        SignalEngine x = CHECK.reads(text);
        for (int i = 0; i < rows.length; i++) {
            String mark = text + ", instant " + i + ": ";
            CHECK.equal(mark + "instant()", x.instant(rows[i][0]), rows[i][1]);
            if (rows[i][1] != 2) {
                CHECK.equal(mark + "outputs", outputs(x), rows[i][2]);
                CHECK.equal(mark + "pauses", pauses(x), rows[i][3]);
            }
        }
        return x;
    }

    private static int outputs(SignalEngine x) {
        int bits = 0;
        for (int k = 0; k < x.count(3); k++) {
            bits |= x.status(x.count(2) + k) << k;
        }
        return bits;
    }

    private static int pauses(SignalEngine x) {
        int bits = 0;
        for (int k = 0; k < x.count(5); k++) {
            bits |= (x.selected(k) ? 1 : 0) << k;
        }
        return bits;
    }

    private static int[] row(int... numbers) {
        return numbers;
    }

    private static void statements() {
        runs("nothing", row(0, 1, 0, 0));
        runs("pause", row(0, 0, 0, 1), row(0, 1, 0, 0));
        runs("out a;emit a", row(0, 1, 1, 0));
        runs("out a,b;emit a;pause;emit b", row(0, 0, 1, 1), row(0, 1, 2, 0));
        runs("out a,b;emit a||pause;emit b", row(0, 0, 1, 1), row(0, 1, 2, 0));
        runs("pause||pause;pause", row(0, 0, 0, 3), row(0, 0, 0, 4), row(0, 1, 0, 0));
        runs("out a;loop emit a;pause;pause end", row(0, 0, 1, 1), row(0, 0, 0, 2), row(0, 0, 1, 1));
        runs("in i;out a;present i then emit a else pause;emit a end", row(0, 0, 0, 1), row(1, 1, 1, 0));
        runs("in i;out a;present i then emit a else pause end", row(1, 1, 1, 0));
        runs("in i;present i then pause else pause;pause end;pause", row(0, 0, 0, 2), row(1, 0, 0, 4), row(0, 0, 0, 8));
    }

    private static void tests() {
        String head = "in i,j;out a;present ";
        String tail = " then emit a end";
        int[][] due = {{0, 1, 0, 1}, {1, 0, 1, 0}, {0, 0, 0, 1}, {0, 1, 1, 1}, {1, 0, 0, 0}, {1, 1, 0, 1}};
        String[] written = {"i", "not i", "i and j", "i or j", "not(i or j)", "i or not j"};
        for (int t = 0; t < written.length; t++) {
            for (int inputs = 0; inputs < 4; inputs++) {
                SignalEngine x = CHECK.reads(head + written[t] + tail);
                CHECK.equal("instant(" + inputs + ")", x.instant(inputs), 1);
                CHECK.equal(written[t] + " on " + inputs, x.status(2), due[t][inputs]);
            }
        }
        runs("out a,b,c;emit a;present a or b then emit c end", row(0, 1, 5, 0));
        runs("out a,b;present a and b then emit b end;emit a", row(0, 2));
        runs("out a,b;signal s in present a or s then emit b end||emit a||present b then emit s end end", row(0, 1, 3, 0));
        runs("out a,b;present a and b then emit a end", row(0, 1, 0, 0));
    }

    private static void presence() {
        runs("out a,b;present a then emit b end||emit a", row(0, 1, 3, 0));
        runs("out a,b;present b then emit a else nothing end||pause;emit b", row(0, 0, 0, 1), row(0, 1, 2, 0));
        runs("out a,b,c;present a then emit b end||present b then emit c end||present c else emit a end", row(0, 2));
        runs("in i;out a,b;present i then present a then emit b end else present b then emit a end end",
                row(0, 1, 0, 0));
        runs("in i;out a,b;present i then present a then emit b end else present b then emit a end end",
                row(1, 1, 0, 0));
        runs("in i;out a,b;present i then emit a;present b then emit a end else present a then emit b end end",
                row(1, 1, 1, 0));
    }

    private static void withoutReaction() {
        SignalEngine x = runs("out a;present a else emit a end", row(0, 2), row(0, 2));
        CHECK.equal("status(0)", x.status(0), 2);
        CHECK.equal("count(10)", x.count(10), 0);
        CHECK.equal("count(11)", x.count(11), 1);
        runs("out a;present a then emit a end", row(0, 2));
        runs("out a,b;present a then emit b end;emit a", row(0, 2));
        runs("out a;present a then emit a else emit a end", row(0, 2));
        runs("signal s in present s then emit s end end", row(0, 2));
        runs("signal s in present s else emit s end end", row(0, 2));
        runs("signal s in present s then pause end;emit s end", row(0, 2));
        SignalEngine y = CHECK.reads("in i;out a,b,c;emit b;pause;present i then present a else emit a end;emit c else emit c end");
        CHECK.equal("first", y.instant(1), 0);
        CHECK.equal("second", y.instant(1), 2);
        int[] due = {1, 2, 0, 2};
        for (int k = 0; k < due.length; k++) {
            CHECK.equal("status(" + k + ")", y.status(k), due[k]);
        }
        CHECK.holds("still at the pause", y.selected(0));
        CHECK.equal("reactions", y.count(10), 1);
        CHECK.equal("third", y.instant(0), 1);
        CHECK.equal("reactions", y.count(10), 2);
        CHECK.equal("status(3)", y.status(3), 1);
        SignalEngine z = runs("out a,b;emit a||signal s in present s then emit s end end", row(0, 2));
        CHECK.equal("known in doubt", z.status(0), 1);
        CHECK.equal("absent in doubt", z.status(1), 0);
    }

    private static void localSignals() {
        runs("out a,b;signal s in emit s;present s then emit a end end;present a then emit b end", row(0, 1, 3, 0));
        runs("out a;signal s in present s then emit a end||pause;emit s end", row(0, 0, 0, 1), row(0, 1, 0, 0));
        runs("out a;loop signal s in present s then emit a end;pause;emit s end end",
                row(0, 0, 0, 1), row(0, 0, 0, 1), row(0, 0, 0, 1));
        runs("out a,b;loop signal s in present s then emit a else emit b end;pause;emit s;present s then emit a end end end",
                row(0, 0, 2, 1), row(0, 0, 3, 1), row(0, 0, 3, 1));
        runs("in i;out a;signal s in present i then signal s in emit s end end;present s then emit a end end", row(1, 1, 0, 0));
        runs("in i;out a;present i then signal s in present s then emit s end end else emit a end", row(0, 1, 1, 0));
        runs("in i;out a;present i then signal s in present s then emit s end end else emit a end", row(1, 2));
        runs("trap T in loop trap U in loop signal s in (pause;emit s;exit U)||present s then exit T end;pause end end end end end",
                row(0, 0, 0, 3), row(0, 0, 0, 3), row(0, 0, 0, 3));
    }

    private static void traps() {
        runs("out a,b;trap T in exit T;emit a end;emit b", row(0, 1, 2, 0));
        runs("out a,b;trap T in emit a;pause;emit b||exit T end;pause", row(0, 0, 1, 2), row(0, 1, 0, 0));
        runs("trap T in pause||pause;exit T||halt end", row(0, 0, 0, 7), row(0, 1, 0, 0));
        runs("out a,b;trap T in trap U in exit T||exit U end;emit a end;emit b", row(0, 1, 2, 0));
        runs("out a,b;trap T in trap U in exit U||pause end;emit a end;emit b", row(0, 1, 3, 0));
        runs("out a;trap T in loop pause;emit a;exit T end end;pause", row(0, 0, 0, 1), row(0, 0, 1, 2), row(0, 1, 0, 0));
        runs("in i;loop trap T in suspend halt when i end||pause;exit T end end", row(0, 0, 0, 3), row(1, 0, 0, 3));
        runs("in i;trap T in suspend halt when i end||pause;exit T end;pause", row(0, 0, 0, 3), row(1, 0, 0, 4));
        runs("trap T in trap U in pause||pause;exit T end||halt end;pause", row(0, 0, 0, 7), row(0, 0, 0, 8));
        runs("out a;trap T in (emit a;exit T)||exit T end", row(0, 1, 1, 0));
    }

    private static void suspending() {
        runs("in i;out a;suspend loop emit a;pause end when i end",
                row(1, 0, 1, 1), row(1, 0, 0, 1), row(0, 0, 1, 1), row(1, 0, 0, 1));
        runs("in i;out a;suspend pause;emit a when i end;emit a", row(1, 0, 0, 1), row(1, 0, 0, 1), row(0, 1, 1, 0));
        runs("out a,b;suspend pause;emit a when b end||pause;emit b", row(0, 0, 0, 3), row(0, 0, 2, 1), row(0, 1, 1, 0));
        runs("out a;suspend pause;emit a when a end", row(0, 0, 0, 1), row(0, 2));
        runs("out a,b;suspend pause;emit a when b end||pause;present a then emit b end", row(0, 0, 0, 3), row(0, 2));
        runs("out x;trap T in trap U in suspend pause;exit T when x end||pause;exit U end;emit x end",
                row(0, 0, 0, 3), row(0, 2));
        runs("in i;suspend pause||pause;pause when i end", row(0, 0, 0, 3), row(0, 0, 0, 4), row(1, 0, 0, 4), row(0, 1, 0, 0));
    }

    private static void derived() {
        runs("halt", row(0, 0, 0, 1), row(0, 0, 0, 1));
        runs("out a;sustain a", row(0, 0, 1, 1), row(0, 0, 1, 1));
        runs("in i;out a;await i;emit a", row(1, 0, 0, 1), row(0, 0, 0, 1), row(1, 1, 1, 0));
        runs("in i;out a,b;abort sustain a when i end;emit b", row(1, 0, 1, 3), row(0, 0, 1, 3), row(1, 1, 2, 0));
        runs("in i;out a,b;weak abort sustain a when i end;emit b", row(1, 0, 1, 3), row(0, 0, 1, 3), row(1, 1, 3, 0));
        runs("in i;out a,b;abort pause;emit a when i end;emit b", row(0, 0, 0, 3), row(0, 1, 3, 0));
        runs("in i;out a;loop emit a each i end", row(0, 0, 1, 3), row(0, 0, 0, 3), row(1, 0, 1, 3));
        runs("in i;out a;every i do emit a end", row(1, 0, 0, 1), row(0, 0, 0, 1), row(1, 0, 1, 6), row(0, 0, 0, 6), row(1, 0, 1, 6));
    }

    private static void restarting() {
        SignalEngine x = CHECK.reads("in i;out a;emit a;pause;pause");
        CHECK.equal("restart() at the start", x.restart(), 0);
        x.instant(1);
        x.instant(1);
        CHECK.equal("status(0)", x.status(0), 1);
        CHECK.equal("restart()", x.restart(), 2);
        CHECK.equal("status(0) after it", x.status(0), 0);
        CHECK.holds("selected(1) after it", !x.selected(1));
        CHECK.equal("count(10) after it", x.count(10), 0);
        CHECK.equal("restart() again", x.restart(), 0);
        CHECK.equal("instant(0)", x.instant(0), 0);
        CHECK.equal("status(1)", x.status(1), 1);
        x.instant(0);
        CHECK.equal("the end", x.instant(0), 1);
        CHECK.equal("restart() after the end", x.restart(), 3);
        CHECK.equal("count(11)", x.count(11), 1);
        CHECK.equal("instant(0)", x.instant(0), 0);
        SignalEngine y = CHECK.reads("out a;present a else emit a end");
        y.instant(0);
        CHECK.equal("restart() without a reaction", y.restart(), 0);
        CHECK.equal("status(0)", y.status(0), 0);
    }

    private static void throwing() {
        SignalEngine x = CHECK.reads("in i,j;pause");
        int[] wrong = {4, 5, 8, -1, Integer.MIN_VALUE, Integer.MAX_VALUE};
        for (int inputs : wrong) {
            CHECK.refusesArgument("instant(" + inputs + ")", () -> x.instant(inputs));
        }
        CHECK.equal("nothing ran", x.count(10), 0);
        CHECK.equal("instant(3)", x.instant(3), 0);
        CHECK.refusesArgument("instant(4)", () -> x.instant(4));
        CHECK.equal("status(1) stays", x.status(1), 1);
        CHECK.equal("instant(0)", x.instant(0), 1);
        CHECK.refusesState("instant(0) after the end", () -> x.instant(0));
        CHECK.refusesState("instant(4) after the end", () -> x.instant(4));
        CHECK.equal("count(10)", x.count(10), 2);
        SignalEngine y = CHECK.reads("nothing");
        CHECK.refusesArgument("instant(1) without inputs", () -> y.instant(1));
        SignalEngine z = CHECK.reads("in " + Texts.names("i", 31) + ";out o;present i30 then emit o end");
        CHECK.refusesArgument("instant(MIN)", () -> z.instant(Integer.MIN_VALUE));
        CHECK.equal("instant(MAX)", z.instant(Integer.MAX_VALUE), 1);
        CHECK.equal("status(31)", z.status(31), 1);
        CHECK.equal("status(30)", z.status(30), 1);
    }

    private static void statuses() {
        SignalEngine x = CHECK.reads("in i;out a;signal s in emit s;emit a;pause;pause end");
        CHECK.equal("status(1) before", x.status(1), 0);
        x.instant(1);
        int[] due = {1, 1, 0, 0};
        for (int k = 0; k < due.length; k++) {
            CHECK.equal("status(" + k + ")", x.status(k), due[k]);
        }
        CHECK.equal("status(-1)", x.status(-1), 0);
        CHECK.equal("status(MAX)", x.status(Integer.MAX_VALUE), 0);
        CHECK.equal("status(MIN)", x.status(Integer.MIN_VALUE), 0);
        x.instant(0);
        CHECK.equal("status(0) then", x.status(0), 0);
        CHECK.equal("status(1) then", x.status(1), 0);
        x.instant(1);
        CHECK.equal("ended", x.count(11), 2);
        CHECK.equal("status(0) of the last instant", x.status(0), 1);
    }

    private static void selecting() {
        SignalEngine x = CHECK.reads("pause||pause;pause");
        CHECK.holds("selected(0) before", !x.selected(0));
        x.instant(0);
        CHECK.holds("selected(0)", x.selected(0));
        CHECK.holds("selected(1)", x.selected(1));
        CHECK.holds("selected(2)", !x.selected(2));
        CHECK.holds("selected(3)", !x.selected(3));
        CHECK.holds("selected(-1)", !x.selected(-1));
        CHECK.holds("selected(MAX)", !x.selected(Integer.MAX_VALUE));
        x.instant(0);
        CHECK.holds("selected(2) then", x.selected(2));
        CHECK.equal("count(12)", x.count(12), 1);
        x.instant(0);
        CHECK.holds("selected(2) after the end", !x.selected(2));
        CHECK.equal("count(12) after the end", x.count(12), 0);
    }

    private static void going() {
        SignalEngine x = CHECK.reads("in i;out a;emit a;pause;present i then pause end;emit a;pause");
        CHECK.refusesState("go(256) before exploring", () -> x.go(256));
        CHECK.refusesState("go(-1) before exploring", () -> x.go(-1));
        x.instant(1);
        CHECK.equal("explore()", x.explore(), 4);
        CHECK.equal("status(1) stays", x.status(1), 1);
        CHECK.equal("pauses stay", pauses(x), 1);
        CHECK.equal("count(10) stays", x.count(10), 1);
        int[] wrong = {-1, 0, 3, 5, 8, 255, 257, 258, 1 << 20, Integer.MIN_VALUE, Integer.MAX_VALUE};
        for (int state : wrong) {
            CHECK.refusesArgument("go(" + state + ")", () -> x.go(state));
        }
        CHECK.equal("pauses stay", pauses(x), 1);
        CHECK.equal("count(10) stays", x.count(10), 1);
        x.go(2);
        CHECK.equal("pauses at 2", pauses(x), 2);
        CHECK.equal("count(10) at 2", x.count(10), 0);
        CHECK.equal("status(0) at 2", x.status(0), 0);
        CHECK.equal("status(1) at 2", x.status(1), 0);
        CHECK.equal("instant(0)", x.instant(0), 0);
        CHECK.equal("status(1)", x.status(1), 1);
        CHECK.equal("pauses", pauses(x), 4);
        CHECK.equal("instant(0)", x.instant(0), 1);
        CHECK.equal("restart() counts since go()", x.restart(), 2);
        x.instant(0);
        x.go(4);
        CHECK.equal("the end", x.instant(0), 1);
        x.go(1);
        CHECK.equal("it goes again", x.count(11), 1);
        CHECK.equal("instant(1)", x.instant(1), 0);
        CHECK.equal("pauses", pauses(x), 2);
        x.go(256);
        CHECK.equal("no pause at first", x.count(12), 0);
        CHECK.equal("instant(0)", x.instant(0), 0);
        CHECK.equal("pauses", pauses(x), 1);
        CHECK.equal("status(1)", x.status(1), 1);
    }

    /** Trees as deep and rounds as many as the limits allow. */
    private static void large() {
        SignalEngine x = CHECK.reads("out a;" + "nothing;".repeat(390) + "emit a");
        CHECK.equal("a long row", x.instant(0), 1);
        CHECK.equal("its end", x.status(0), 1);
        SignalEngine y = CHECK.reads("pause" + "||pause".repeat(199));
        CHECK.equal("200 pauses", y.instant(0), 0);
        CHECK.equal("selected", y.count(12), 200);
        CHECK.holds("selected(199)", y.selected(199));
        CHECK.equal("restart()", y.restart(), 1);
        CHECK.equal("no pause at the start", y.count(12), 0);
        CHECK.equal("200 pauses again", y.instant(0), 0);
        CHECK.equal("their end", y.instant(0), 1);
        StringBuilder chain = new StringBuilder("out a;signal " + Texts.names("s", 140) + " in present s0 then emit a end");
        for (int i = 1; i < 140; i++) {
            chain.append("||present s").append(i).append(" then emit s").append(i - 1).append(" end");
        }
        SignalEngine z = CHECK.reads(chain + "||pause;emit s139 end");
        CHECK.equal("none is emitted", z.instant(0), 0);
        CHECK.equal("status(0)", z.status(0), 0);
        CHECK.equal("all are emitted", z.instant(0), 1);
        CHECK.equal("status(0) then", z.status(0), 0);
        SignalEngine w = CHECK.reads(chain + "||emit s139 end");
        CHECK.equal("all at once", w.instant(0), 1);
        CHECK.equal("status(0)", w.status(0), 1);
    }
}

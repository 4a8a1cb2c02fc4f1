/** The edges of the faults that promise 4 answers, by the terms: which comes first, its line, its limit. */
final class FaultEdgesTest {
    private static final Check CHECK = new Check("FaultEdgesTest");
    private static final String HEAD = "in a;out o;";

    public static void main(String[] args) {
        lineOfToken();
        numberAndLine();
        namesOfOneList();
        openStatements();
        openKinds();
        openInTests();
        openAllTogether();
        openEndsAgain();
        lesserOfOneToken();
        tokenByToken();
        pairs();
        firstLoop();
        codesOfLoops();
        loopsOfOthers();
        inputsAndOutputs();
        signals();
        pauses();
        pieces();
        piecesAsOften();
        traps();
        weights();
        limitsHaveNoLine();
        CHECK.finish();
    }

    private static void lineOfToken() {
        CHECK.about("promise 4: the fault + 8 * its line, the line of the token");
        CHECK.fault("pause\n\n)", 1, 3);
        CHECK.fault("pause;emit\n\no", 2, 3);
        CHECK.fault("in a,\n\na;pause", 3, 3);
        CHECK.fault("(\n" + Texts.bracketed("pause", 23), 5, 2);
        CHECK.fault("pause;\n\nloop\nnothing end", 4, 3);
        CHECK.fault("\n\n" + Texts.row("pause", ";\n", 201), 6, 0);
        CHECK.fault(Texts.times("\n", 600) + "x", 1, 601);
    }

    private static void numberAndLine() {
        CHECK.about("promise 4: the fault + 8 * its line");
        CHECK.equal("read() of ;", Check.fault(";"), 9);
        CHECK.equal("read() of emit o", Check.fault("emit o"), 10);
        CHECK.equal("read() of in a,a;pause", Check.fault("in a,a;pause"), 11);
        CHECK.equal("read() of loop nothing end", Check.fault("loop nothing end"), 12);
        CHECK.equal("read() of brackets", Check.fault(Texts.bracketed("pause", 24)), 13);
        CHECK.equal("read() of pauses", Check.fault(Texts.row("pause", ";", 201)), 6);
        CHECK.equal("read() of pause", Check.fault("pause"), 0);
    }

    private static void namesOfOneList() {
        CHECK.about("terms, faults: 3 a name that one of the same list has");
        CHECK.fault("in a,b,\na;pause", 3, 2);
        CHECK.fault("out a,b,\nb;pause", 3, 2);
        CHECK.fault("signal a,b,c,\na in pause end", 3, 2);
        CHECK.about("terms, faults: 3, in and out are one list");
        CHECK.fault("in a,b;out c,\nb;pause", 3, 2);
        CHECK.good("in a,b;out c,d;pause");
        CHECK.about("terms, faults: 3, those of one signal are one list");
        CHECK.good("in a;out o;signal a,o in signal a,o in pause end;signal a,o in pause end end");
        CHECK.fault("in a;signal a in signal a,\na in pause end end", 3, 2);
        CHECK.good("in a;trap a in trap a in pause end end");
        CHECK.good("in a,aa,A;out aaa,a1,a_;pause");
    }

    /** Twenty-three around it are fine, twenty-four are not. */
    private static void within(String head, String open, String what, String close) {
        CHECK.good(head + Texts.times(open, 23) + what + Texts.times(close, 23));
        CHECK.fault(head + Texts.times(open, 24) + "\n" + what + Texts.times(close, 24), 5, 2);
    }

    private static void openStatements() {
        CHECK.about("terms, faults: 5 a statement within 24 others that are open");
        String[] small = {"nothing", "pause", "halt", "emit o", "sustain o", "await a"};
        for (String statement : small) {
            within(HEAD, "(", statement, ")");
        }
        String[] wide = {"present a then @ end", "present a else @ end", "suspend @ when a end", "loop @ end",
            "loop @ each a end", "trap T in @ end", "signal s in @ end", "abort @ when a end",
            "weak abort @ when a end", "every a do @ end", "(@)"};
        for (String statement : wide) {
            String[] parts = statement.split("@");
            CHECK.good(HEAD + Texts.bracketed(parts[0] + "pause" + parts[1], 22));
            CHECK.fault(HEAD + Texts.bracketed(parts[0] + "\npause" + parts[1], 23), 5, 2);
            CHECK.fault(HEAD + Texts.bracketed("\n" + parts[0] + "pause" + parts[1], 24), 5, 2);
        }
    }

    private static void openKinds() {
        CHECK.about("terms, faults: 5, each as the text has it, whatever it stands for");
        within(HEAD, "loop ", "pause", " end");
        within(HEAD, "signal s,t,u in ", "pause", " end");
        CHECK.fault(HEAD + Texts.times("abort ", 23) + "pause" + Texts.times(" when a end", 23), 6, 0);
        CHECK.fault(HEAD + Texts.times("abort ", 24) + "\npause" + Texts.times(" when a end", 24), 5, 2);
        CHECK.fault(HEAD + Texts.times("weak abort ", 24) + "\npause" + Texts.times(" when a end", 24), 5, 2);
        CHECK.fault(HEAD + Texts.times("every a do ", 24) + "\npause" + Texts.times(" end", 24), 5, 2);
        CHECK.fault(HEAD + Texts.times("trap T in ", 24) + "\npause" + Texts.times(" end", 24), 5, 2);
        CHECK.about("terms, faults: 5, ( BODY ) once");
        within(HEAD, "(", "pause;pause||pause", ")");
        CHECK.good(Texts.times("(pause;", 23) + "pause" + Texts.times(";pause)", 23));
        CHECK.fault(Texts.times("(pause;", 23) + "(\npause" + Texts.times(";pause)", 24), 5, 2);
        CHECK.good(Texts.times("(pause||", 23) + "pause" + Texts.times("||pause)", 23));
        CHECK.fault(Texts.times("(pause||", 23) + "(\npause" + Texts.times("||pause)", 24), 5, 2);
    }

    private static void openInTests() {
        CHECK.about("terms, faults: 5 a bracket in an E, or a not");
        String[] heads = {"await ", "present ", "suspend pause when ", "loop pause each ", "abort pause when ",
            "weak abort pause when ", "every "};
        String[] tails = {"", " then pause end", " end", " end", " end", " end", " do pause end"};
        for (int i = 0; i < heads.length; i++) {
            CHECK.good(HEAD + heads[i] + Texts.bracketed("a", 23) + tails[i]);
            CHECK.fault(HEAD + heads[i] + Texts.times("(", 23) + "\n(a" + Texts.times(")", 24) + tails[i], 5, 2);
            CHECK.good(HEAD + heads[i] + Texts.times("not ", 23) + "a" + tails[i]);
            CHECK.fault(HEAD + heads[i] + Texts.times("not ", 23) + "\nnot a" + tails[i], 5, 2);
            CHECK.good(HEAD + heads[i] + Texts.times("not(", 11) + "not a" + Texts.times(")", 11) + tails[i]);
            CHECK.fault(HEAD + heads[i] + Texts.times("not(", 11) + "not\n(a" + Texts.times(")", 12) + tails[i], 5, 2);
        }
    }

    private static void openAllTogether() {
        CHECK.about("terms, faults: 5, all counted together");
        for (int brackets = 0; brackets <= 23; brackets++) {
            int nots = 23 - brackets;
            String test = "await " + Texts.times("not ", nots) + "a";
            CHECK.good(HEAD + Texts.bracketed(test, brackets));
            CHECK.fault(HEAD + Texts.bracketed("await " + Texts.times("not ", nots) + "\nnot a", brackets), 5, 2);
        }
        CHECK.fault(HEAD + Texts.bracketed("\nawait not a", 24), 5, 2);
    }

    private static void openEndsAgain() {
        CHECK.about("terms, faults: 5, of these that are open: what has ended is not");
        CHECK.good(Texts.row(Texts.bracketed("pause", 23), ";", 8));
        CHECK.good(Texts.row(Texts.bracketed("pause", 23), "||", 8));
        String deep = Texts.bracketed("a", 23);
        CHECK.good(HEAD + "await " + deep + " or " + deep + " and " + deep);
        CHECK.good(HEAD + "await " + Texts.row("not a", " and ", 30));
        CHECK.good(HEAD + "present " + deep + " then " + Texts.bracketed("pause", 22) + " else "
                + Texts.bracketed("pause", 22) + " end");
        CHECK.fault(HEAD + "present " + deep + " then " + Texts.bracketed("pause", 22) + " else\n"
                + Texts.bracketed("pause", 23) + " end", 5, 2);
        CHECK.good(HEAD + "suspend " + Texts.bracketed("pause", 22) + " when " + deep + " end;await " + deep);
        CHECK.good(HEAD + "every " + deep + " do " + Texts.bracketed("pause", 22) + " end");
        CHECK.fault(HEAD + "every " + deep + " do\n" + Texts.bracketed("pause", 23) + " end", 5, 2);
    }

    private static void lesserOfOneToken() {
        CHECK.about("terms, faults: of one token the lesser number counts");
        String open = HEAD + Texts.times("(", 24) + "\n";
        CHECK.fault(open + "pause", 5, 2);
        String[] wrong = {"then", "end", "a", "o", "zz", ")", ";", ",", "||", "|", "!", "1", Texts.times("p", 32), "",
            "in", "not"};
        for (String token : wrong) {
            CHECK.fault(open + token, 1, 2);
        }
        CHECK.fault(open + "emit zz", 5, 2);
        CHECK.fault(open + "exit zz", 5, 2);
        CHECK.fault(open + "signal s,s in pause end", 5, 2);
        CHECK.fault(HEAD + "emit\n" + Texts.times("z", 32), 1, 2);
        CHECK.fault(HEAD + "await " + Texts.times("not ", 23) + "\nzz", 2, 2);
        CHECK.fault(HEAD + "await " + Texts.times("not ", 23) + "\nor", 1, 2);
    }

    private static void tokenByToken() {
        CHECK.about("terms, faults: the first one, token by token");
        CHECK.fault(HEAD + "emit zz\n;", 2, 1);
        CHECK.fault(HEAD + "emit zz\n!", 2, 1);
        CHECK.fault(HEAD + "emit zz\n" + Texts.times("z", 32), 2, 1);
        CHECK.fault(HEAD + "emit zz\nzz", 2, 1);
        CHECK.fault("in a,a\n!", 3, 1);
        CHECK.fault("in a,a\na", 3, 1);
        CHECK.fault("in a\na,a;pause", 1, 2);
        CHECK.fault(Texts.times("(", 24) + "pause\n!", 5, 1);
        CHECK.fault(Texts.times("(", 25) + "\n!", 5, 1);
        CHECK.fault(HEAD + "await " + Texts.times("not ", 24) + "\n!", 5, 1);
        CHECK.fault(HEAD + "await " + Texts.times("(", 24) + "\n!", 5, 1);
        CHECK.fault(HEAD + "pause\n!;emit zz", 1, 2);
        CHECK.fault(HEAD + "present zz\nend", 2, 1);
        CHECK.fault(HEAD + "present a\nzz", 1, 2);
        CHECK.fault(HEAD + "exit\nin", 1, 2);
    }

    /** Two faulty statements, one in line 2, one in line 3: which of them is told. */
    private static void pairs() {
        CHECK.about("terms, faults: 1, 2, 3, 5, the first one; then 4; then 6");
        int[] kinds = {1, 2, 3, 5, 4, 6};
        String[] texts = {"()", "emit zz", "signal s,s in pause end", Texts.bracketed("pause", 24), "loop nothing end",
            "(" + Texts.row("pause", ";", 201) + ")"};
        for (int i = 0; i < kinds.length; i++) {
            CHECK.fault(HEAD + "\n" + texts[i], kinds[i], kinds[i] == 6 ? 0 : 2);
            for (int j = 0; j < kinds.length; j++) {
                boolean second = i >= 4 && (j < 4 || (j == 4 && i == 5));
                int told = second ? kinds[j] : kinds[i];
                CHECK.fault(HEAD + "\n" + texts[i] + ";\n" + texts[j], told, told == 6 ? 0 : second ? 3 : 2);
            }
        }
    }

    private static void firstLoop() {
        CHECK.about("terms, faults: 4 the first loop node, in their order");
        CHECK.fault("loop pause end;\nloop nothing end;\nloop nothing end", 4, 2);
        CHECK.fault("loop\nloop nothing end end", 4, 1);
        CHECK.fault("loop pause;\nloop nothing end end", 4, 2);
        CHECK.fault("loop pause end||\nloop nothing end", 4, 2);
        CHECK.fault(HEAD + "present a then\nloop nothing end else\nloop nothing end end", 4, 2);
        CHECK.fault(HEAD + "present a else\nloop nothing end end;\nloop nothing end", 4, 2);
        CHECK.fault("trap T in exit T;\nloop nothing end end", 4, 2);
        CHECK.about("terms, faults: 4 with the line of its statement's first word");
        CHECK.fault("(\n(\nloop\n(\nnothing)\nend))", 4, 3);
    }

    /** A statement that may be in a loop, or may not. */
    private static void inLoop(String statement, boolean fine) {
        String text = HEAD + "trap T in\nloop " + statement + " end end";
        CHECK.fault(text, fine ? 0 : 4, fine ? 0 : 2);
    }

    private static void codesOfLoops() {
        CHECK.about("terms, faults: 4 a loop within which 0 is a code");
        inLoop("nothing", false);
        inLoop("pause", true);
        inLoop("emit o", false);
        inLoop("exit T", true);
        inLoop("trap U in exit U end", false);
        inLoop("trap U in exit T end", true);
        inLoop("trap U in pause||exit U end", false);
        inLoop("trap U in exit U||exit T end", true);
        inLoop("present a then pause end", false);
        inLoop("present a else pause end", false);
        inLoop("present a then pause else exit T end", true);
        inLoop("nothing;nothing", false);
        inLoop("nothing;pause", true);
        inLoop("pause;nothing", true);
        inLoop("present a then pause end;emit o", false);
        inLoop("present a then pause end;exit T", true);
        inLoop("nothing||nothing", false);
        inLoop("nothing||pause", true);
        inLoop("present a then pause end||present a else pause end", false);
        inLoop("suspend nothing when a end", false);
        inLoop("suspend pause when a end", true);
        inLoop("signal s in nothing end", false);
        inLoop("signal s in pause end", true);
    }

    private static void loopsOfOthers() {
        CHECK.about("terms, faults: 4, what the others stand for");
        inLoop("halt", true);
        inLoop("sustain o", true);
        inLoop("await a", true);
        inLoop("abort nothing when a end", false);
        inLoop("abort pause when a end", true);
        inLoop("abort exit T when a end", true);
        inLoop("weak abort nothing when a end", false);
        inLoop("weak abort pause when a end", true);
        inLoop("loop nothing each a end", true);
        inLoop("every a do nothing end", true);
        CHECK.good(HEAD + "loop nothing each a end");
        CHECK.good(HEAD + "loop emit o each a end");
        CHECK.fault(HEAD + "loop\nloop nothing end each a end", 4, 2);
        CHECK.fault(HEAD + "every a do\nloop nothing end end", 4, 2);
    }

    private static void inputsAndOutputs() {
        CHECK.about("terms, faults: 6 more than 31 inputs");
        CHECK.good("in " + Texts.names("i", 31) + ";pause");
        CHECK.fault("in " + Texts.names("i", 32) + ";pause", 6, 0);
        CHECK.about("terms, faults: 6 more than 31 outputs");
        CHECK.good("out " + Texts.names("o", 31) + ";pause");
        CHECK.fault("out " + Texts.names("o", 32) + ";pause", 6, 0);
        CHECK.good("in " + Texts.names("i", 31) + ";out " + Texts.names("o", 31) + ";pause");
    }

    private static void signals() {
        CHECK.about("terms, faults: 6 more than 400 signals, with inputs and outputs");
        CHECK.good("signal " + Texts.names("s", 400) + " in pause end");
        CHECK.fault("signal " + Texts.names("s", 401) + " in pause end", 6, 0);
        String head = "in " + Texts.names("i", 31) + ";out " + Texts.names("o", 31) + ";";
        SignalEngine x = CHECK.reads(head + "signal " + Texts.names("s", 338) + " in pause end");
        CHECK.equal("count(4)", x.count(4), 338);
        CHECK.fault(head + "signal " + Texts.names("s", 339) + " in pause end", 6, 0);
        String half = "signal " + Texts.names("s", 200) + " in pause end";
        CHECK.good(half + "||" + half);
        CHECK.fault(half + "||" + half + "||signal s in pause end", 6, 0);
    }

    private static void pauses() {
        CHECK.about("terms, faults: 6 more than 200 pauses");
        CHECK.good(Texts.row("pause", ";", 200));
        CHECK.fault(Texts.row("pause", ";", 201), 6, 0);
        CHECK.good(Texts.row("pause", "||", 200));
        CHECK.fault(Texts.row("pause", "||", 201), 6, 0);
        CHECK.good(Texts.row("halt", "||", 200));
        CHECK.fault(Texts.row("halt", "||", 199) + "||pause||pause", 6, 0);
        SignalEngine x = CHECK.reads(Texts.row("(pause;pause;pause;pause)", "||", 50));
        CHECK.equal("count(5)", x.count(5), 200);
    }

    private static void pieces() {
        CHECK.about("terms, faults: 6 more than 1000 pieces");
        SignalEngine x = CHECK.reads("in a;await not " + Texts.row("a", " or ", 500));
        CHECK.equal("count(1)", x.count(1), 1000);
        CHECK.fault("in a;await not not " + Texts.row("a", " or ", 500), 6, 0);
        CHECK.fault("in a;await " + Texts.row("a", " and ", 501), 6, 0);
        CHECK.good("in a;await " + Texts.row("a", " and ", 500) + ";pause");
        CHECK.fault("in a;await not " + Texts.row("a", " and ", 500) + ";await a", 6, 0);
    }

    private static void piecesAsOften() {
        CHECK.about("terms, tree: pieces, as often as e stands there");
        String half = Texts.row("a", " or ", 250);
        CHECK.good("in a;abort pause when not " + half + " end");
        CHECK.fault("in a;abort pause when not not " + half + " end", 6, 0);
        CHECK.good("in a;loop pause each not " + half + " end");
        CHECK.fault("in a;loop pause each not not " + half + " end", 6, 0);
        CHECK.good("in a;weak abort pause when not " + Texts.row("a", " or ", 500) + " end");
        CHECK.fault("in a;weak abort pause when not not " + Texts.row("a", " or ", 500) + " end", 6, 0);
        String third = Texts.row("a", " or ", 167);
        CHECK.good("in a;every " + third + " do pause end");
        CHECK.fault("in a;every not " + third + " do pause end", 6, 0);
    }

    private static void traps() {
        CHECK.about("terms, faults: 6 more than 8 traps around a node");
        SignalEngine x = CHECK.reads(Texts.times("trap T in ", 8) + "pause" + Texts.times(" end", 8));
        CHECK.equal("count(7)", x.count(7), 8);
        CHECK.fault(Texts.times("trap T in ", 9) + "pause" + Texts.times(" end", 9), 6, 0);
        String[] others = {"await a", "abort pause when a end", "weak abort pause when a end", "loop pause each a end",
            "every a do pause end"};
        for (String other : others) {
            CHECK.good(HEAD + Texts.times("trap T in ", 7) + other + Texts.times(" end", 7));
            CHECK.fault(HEAD + Texts.times("trap T in ", 8) + other + Texts.times(" end", 8), 6, 0);
        }
        CHECK.good(Texts.row("trap T in pause end", ";", 9));
        CHECK.good(Texts.times("trap T in ", 8) + "pause" + Texts.times(" end", 8) + ";trap T in pause end");
    }

    /** A row of n has n - 1 sequences and its first one of weight 1, and n - 1 statements of weight 2. */
    private static void weights() {
        CHECK.about("terms, faults: 6 weights of more than 1200 together");
        SignalEngine x = CHECK.reads("nothing||" + Texts.row("nothing", ";", 400));
        CHECK.equal("count(6)", x.count(6), 1200);
        CHECK.fault("nothing||nothing;" + Texts.row("nothing", ";", 400), 6, 0);
        CHECK.fault("trap T in nothing||" + Texts.row("nothing", ";", 400) + " end", 6, 0);
        String loops = "loop " + Texts.row("pause", ";", 200) + " end||" + Texts.row("nothing", ";", 67);
        SignalEngine y = CHECK.reads(loops + "||nothing");
        CHECK.equal("count(6)", y.count(6), 1200);
        CHECK.fault(loops + "||trap T in nothing end", 6, 0);
        CHECK.good(Texts.row("nothing", "||", 600));
        CHECK.fault(Texts.row("nothing", "||", 601), 6, 0);
        CHECK.good("trap T in " + Texts.row("nothing", "||", 600) + " end");
        CHECK.fault("trap T in trap T in " + Texts.row("nothing", "||", 600) + " end end", 6, 0);
    }

    private static void limitsHaveNoLine() {
        CHECK.about("terms, faults: 6, with line 0");
        CHECK.fault("\n\n\nin " + Texts.names("i", 32) + ";\n\npause", 6, 0);
        CHECK.fault("\n\n\nin " + Texts.names("i", 32) + ";\n\n" + Texts.row("pause", ";", 201), 6, 0);
        CHECK.about("terms, faults: 4 before 6, wherever it is");
        CHECK.fault("in " + Texts.names("i", 32) + ";" + Texts.row("pause", ";", 201) + ";\n"
                + Texts.times("trap T in ", 9) + "loop nothing end" + Texts.times(" end", 9), 4, 2);
        CHECK.fault(Texts.row("nothing", "||", 700) + "||\n" + Texts.times("trap T in ", 21) + "loop trap U in exit U end end"
                + Texts.times(" end", 21), 4, 2);
    }
}

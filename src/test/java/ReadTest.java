/** Promise 4: read, with all faults of a text; the faults 4 and 6 of a tree too. */
final class ReadTest {
    private static final Check CHECK = new Check("ReadTest");

    public static void main(String[] args) {
        wellFormed();
        characters();
        words();
        grammar();
        endOfText();
        names();
        lists();
        open();
        orderOfFaults();
        loops();
        limits();
        whatReadingChanges();
        CHECK.finish();
    }

    private static void fault(String text, int kind, int line) {
        CHECK.fault(text, kind, line);
    }

    private static void good(String text) {
        CHECK.good(text);
    }

    private static String times(String part, int many) {
        return Texts.times(part, many);
    }

    private static void wellFormed() {
        good("nothing");
        good("\n\t %c\n pause % last line");
        good("in a;out b;present a then emit b end");
        good("in a,b , c;nothing");
        good("out b;emit b");
        good("(nothing)");
        good("((pause;nothing)||(halt))");
        good("pause;pause;pause||nothing||halt;nothing");
        good("out s;sustain s");
        good("trap T in exit T end");
        good("in a;present a then nothing else pause end");
        good("in a;present a else pause end");
        good("in a;suspend pause when a end");
        good("loop pause end");
        good("in a;loop pause each a end");
        good("signal a in emit a end");
        good("signal a,b,c in emit a;emit b;emit c end");
        good("in a;await a");
        good("in a;abort halt when a end");
        good("in a;weak abort halt when a end");
        good("in a;every a do nothing end");
        good("in a,b;await not not(a or b and not a)and(b)or a");
        good("in inn,outs,e_nd,End,IN,d0,or1;await inn or outs or e_nd or End or IN or d0 or or1");
        good("present%x\n%y||\na%\nthen nothing end".replace("present", "in a;present"));
        good("trap loopx in(exit loopx)end");
    }

    private static void characters() {
        fault("pause\n\n\u0001", 1, 3);
        fault("pause\u007f", 1, 1);
        fault("pause %\u0080", 1, 1);
        fault("pause %\u007f", 1, 1);
        fault("pause %\u001f", 1, 1);
        fault("pause %\n\u0008", 1, 2);
        fault("pause %\n%\u00e9", 1, 2);
        fault("pause\r\n", 1, 1);
        fault("pause\u000b", 1, 1);
        fault("\u0000", 1, 1);
        fault("bad bad\n\n%\u0002\n\u0001", 1, 3);
        fault("in a,a;nothing\n\u0001", 1, 2);
        good("nothing % ~ } | ! 0 \"");
        fault("nothing !", 1, 1);
        fault("nothing\n~", 1, 2);
        fault("no.thing", 1, 1);
        fault("_a", 1, 1);
        fault("in _a;nothing", 1, 1);
        fault("in\n1a;nothing", 1, 2);
        fault("pause|pause", 1, 1);
        fault("pause| |pause", 1, 1);
        fault("pause|||pause", 1, 1);
        fault("pause||||pause", 1, 1);
        fault("pause\n|\n|pause", 1, 2);
        fault("pause|", 1, 1);
    }

    private static void words() {
        String longest = times("a", 31);
        good("in " + longest + ";await " + longest);
        fault("in " + longest + "b;nothing", 1, 1);
        fault("nothing;\n" + longest + "_", 1, 2);
        good("in " + times("a", 30) + "b," + longest + ";nothing");
        good("in a" + times("_9", 15) + ";nothing");
        fault("pausepause", 1, 1);
        fault("Pause", 1, 1);
        fault("pause2", 1, 1);
        fault("pa%\nuse", 1, 1);
        fault("in pause;nothing", 1, 1);
        fault("in each;nothing", 1, 1);
        fault("signal do in nothing end", 1, 1);
        fault("trap in in nothing end", 1, 1);
    }

    private static void grammar() {
        fault("in;nothing", 1, 1);
        fault("in a nothing", 1, 1);
        fault("in a,;nothing", 1, 1);
        fault("in a b;nothing", 1, 1);
        fault("out b;in a;nothing", 1, 1);
        fault("in a;in b;nothing", 1, 1);
        fault("out a;out b;nothing", 1, 1);
        fault("pause;", 1, 1);
        fault("pause||", 1, 1);
        fault(";pause", 1, 1);
        fault("pause pause", 1, 1);
        fault("pause\n)", 1, 2);
        fault("(pause", 1, 1);
        fault("()", 1, 1);
        fault("emit", 1, 1);
        fault("out a;emit (a)", 1, 1);
        fault("exit", 1, 1);
        fault("in a;present a end", 1, 1);
        fault("in a;present a\nend", 1, 2);
        fault("in a;present a else pause then pause end", 1, 1);
        fault("in a;present then pause end", 1, 1);
        fault("in a;present a then pause else pause else pause end", 1, 1);
        fault("in a;suspend pause end", 1, 1);
        fault("in a;suspend pause when a", 1, 1);
        fault("loop pause", 1, 1);
        fault("loop pause each end", 1, 1);
        fault("in a;loop pause when a end", 1, 1);
        fault("trap T nothing end", 1, 1);
        fault("trap T,U in nothing end", 1, 1);
        fault("signal in nothing end", 1, 1);
        fault("signal a nothing end", 1, 1);
        fault("signal a, in nothing end", 1, 1);
        fault("in a;await", 1, 1);
        fault("in a;await a or", 1, 1);
        fault("in a;await a a", 1, 1);
        fault("in a;await (a", 1, 1);
        fault("in a;await a)", 1, 1);
        fault("in a;await not", 1, 1);
        fault("in a;await a not a", 1, 1);
        fault("in a;await or a", 1, 1);
        fault("in a;abort pause end", 1, 1);
        fault("in a;weak pause when a end", 1, 1);
        fault("in a;weak\nsuspend pause when a end", 1, 2);
        fault("in a;abort weak pause when a end", 1, 1);
        fault("in a;every a nothing end", 1, 1);
        fault("in a;every a do nothing", 1, 1);
        fault("a", 1, 1);
        fault("then", 1, 1);
        fault("pause end", 1, 1);
        fault("nothing,nothing", 1, 1);
    }

    private static void endOfText() {
        fault("", 1, 1);
        fault(" ", 1, 1);
        fault("\n", 1, 2);
        fault("\n\n%", 1, 3);
        fault("loop pause\n", 1, 2);
        fault("loop pause % \n % \n", 1, 3);
        fault("in\n\na\n", 1, 4);
    }

    private static void names() {
        fault("emit a", 2, 1);
        fault("in a;\nemit a", 2, 2);
        fault("in a;sustain\na", 2, 2);
        fault("in a;\nawait b", 2, 2);
        fault("in a;present a and\n(not A)then nothing end", 2, 2);
        fault("exit T", 2, 1);
        fault("out T;exit T", 2, 1);
        fault("trap T in nothing end;\nexit T", 2, 2);
        fault("trap T in exit U end", 2, 1);
        fault("trap T in emit T end", 2, 1);
        fault("signal a in nothing end;\nemit a", 2, 2);
        fault("in a;abort signal b in pause end when b end", 2, 1);
        fault("in a;loop signal b in pause end each\nb end", 2, 2);
        fault("trap T in nothing end||exit T", 2, 1);
        good("in a;signal a in emit a end");
        fault("in a;signal a in emit a end;emit a", 2, 1);
        good("in a;signal b in signal a in emit a end;emit b end");
        good("trap T in trap T in exit T end;exit T end");
        fault("trap T in trap T in exit T end end;exit T", 2, 1);
        good("in T;trap T in await T;exit T end");
        fault("out ab;emit a", 2, 1);
        fault("out a;emit ab", 2, 1);
    }

    private static void lists() {
        fault("in a,a;nothing", 3, 1);
        fault("in a,b,\na;nothing", 3, 2);
        fault("in a;out a;nothing", 3, 1);
        fault("in a,b;out c,d,\nb;nothing", 3, 2);
        fault("out c,c;nothing", 3, 1);
        fault("signal s,t,s in nothing end", 3, 1);
        good("in s;signal s in signal s in nothing end end");
        good("signal s in nothing end;signal s in nothing end");
        good("in ab,a,b;nothing");
        good("in s;trap s in nothing end");
    }

    /** A pause in so many brackets, each of which is a statement. */
    private static String pauseIn(int brackets) {
        return Texts.bracketed("pause", brackets);
    }

    private static void open() {
        good(pauseIn(23));
        fault(pauseIn(24), 5, 1);
        fault(pauseIn(200), 5, 1);
        good(times("(", 23) + "pause;pause||pause" + times(")", 23) + ";" + pauseIn(23));
        fault(times("(", 24) + "\n\npause" + times(")", 24), 5, 3);
        fault(times("(\n", 25) + "pause" + times(")", 25), 5, 25);
        good(times("loop ", 23) + "pause" + times(" end", 23));
        fault(times("loop ", 24) + "pause" + times(" end", 24), 5, 1);
        good("in a;" + times("(", 22) + "present a then pause end" + times(")", 22));
        fault("in a;" + times("(", 23) + "present a then\npause end" + times(")", 23), 5, 2);
        fault("in a;" + times("(", 24) + "\nawait a" + times(")", 24), 5, 2);
        openInTests();
        openTwoWords();
    }

    private static void openInTests() {
        good("in a;await " + times("not ", 23) + "a");
        fault("in a;await " + times("not ", 23) + "\nnot a", 5, 2);
        good("in a;await " + times("(", 23) + "a" + times(")", 23));
        fault("in a;await " + times("(", 24) + "a" + times(")", 24), 5, 1);
        good("in a;await " + times("not(", 11) + "not a" + times(")", 11) + " or not a and " + times("(", 23) + "a" + times(")", 23));
        fault("in a;await " + times("not(", 11) + "not\nnot a" + times(")", 11), 5, 2);
        good("in a;" + times("(", 12) + "present " + times("not ", 11) + "a then nothing end" + times(")", 12));
        fault("in a;" + times("(", 12) + "present " + times("not ", 12) + "a then nothing end" + times(")", 12), 5, 1);
        good("in a;suspend " + pauseIn(22) + " when " + times("(", 23) + "a" + times(")", 23) + " end");
        fault("in a;suspend " + pauseIn(22) + " when\n" + times("(", 24) + "a" + times(")", 24) + " end", 5, 2);
        fault("in a;suspend\n" + pauseIn(23) + " when a end", 5, 2);
    }

    private static void openTwoWords() {
        good("in a;" + times("(", 22) + "weak abort pause when a end" + times(")", 22));
        fault("in a;" + times("(", 23) + "weak abort\npause when a end" + times(")", 23), 5, 2);
        fault("in a;" + times("(", 24) + "weak\nabort pause when a end" + times(")", 24), 5, 1);
        good("in a;" + times("(", 22) + "every a do pause end" + times(")", 22));
        good("in a;" + times("(", 22) + "loop pause each a end" + times(")", 22));
        good("signal a,b,c in " + pauseIn(22) + " end");
        fault("signal a,b,c in " + pauseIn(23) + " end", 5, 1);
    }

    private static void orderOfFaults() {
        fault("emit b;\n)", 2, 1);
        fault("in a,a;\nemit b", 3, 1);
        fault("in a,\n;out a,a", 1, 2);
        fault("exit T;\n" + pauseIn(24), 2, 1);
        fault(pauseIn(24) + "\n;;", 5, 1);
        fault(times("(", 24) + "\nthen", 1, 2);
        fault(times("(", 24) + "\nx" + times(")", 24), 1, 2);
        fault(times("(", 24) + "\n" + times("p", 32), 1, 2);
        fault(times("(", 24) + "\nemit x" + times(")", 24), 5, 2);
        fault("out a,a\n1", 3, 1);
        fault("emit a\n|", 2, 1);
        fault("in a;await not b\n|", 2, 1);
        fault("loop nothing end;\nemit b", 2, 2);
        fault("loop nothing end;\npause;", 1, 2);
        fault("trap T in loop nothing end end;\n" + pauseIn(24), 5, 2);
        fault("in " + Texts.names("i", 32) + ";\nloop nothing end", 4, 2);
        fault("in " + Texts.names("i", 32) + ";\nemit b", 2, 2);
    }

    private static void loops() {
        fault("loop nothing end", 4, 1);
        fault("out s;\nloop emit s end", 4, 2);
        good("loop nothing||pause end");
        good("loop (nothing;pause)end");
        good("loop (pause;nothing)end");
        fault("in a;loop present a then pause end end", 4, 1);
        good("in a;loop present a then pause else pause end end");
        fault("\n\nloop\ntrap T in exit T end end", 4, 3);
        good("trap T in loop exit T end end");
        good("trap T in loop trap U in exit T end end end");
        fault("trap T in loop trap U in exit T||exit U end end;\nloop nothing end end", 4, 2);
        fault("trap T in loop\ntrap U in nothing||exit U end end end", 4, 1);
        fault("loop pause end;\nloop nothing end;\nloop nothing end", 4, 2);
        fault("loop\nloop nothing end end", 4, 1);
        fault("loop pause;\nloop nothing end end", 4, 2);
        fault("in a;loop\nabort nothing when a end end", 4, 1);
        fault("in a;loop\nweak abort nothing when a end end", 4, 1);
        good("in a;loop abort pause when a end end");
        good("in a;loop await a end");
        good("in a;loop nothing each a end");
        good("in a;every a do nothing end");
        fault("in a;every a do\nloop nothing end end", 4, 2);
        fault("in a;loop\n\nloop nothing end each a end", 4, 3);
        good("in a;loop suspend pause when a end end");
        fault("in a;loop suspend nothing when a end end", 4, 1);
        fault("loop signal s in nothing end end", 4, 1);
        fault("in a;loop pause;present a then\nloop nothing end end end;\nloop nothing end", 4, 2);
        fault("nothing;\n" + times("nothing;", 500) + "\nloop nothing end", 4, 3);
        fault(times("trap T in ", 20) + "\nloop trap U in exit U end end" + times(" end", 20), 4, 2);
    }

    private static void tooLarge(String text) {
        fault(text, 6, 0);
    }

    private static void limits() {
        good("in " + Texts.names("i", 31) + ";out " + Texts.names("o", 31) + ";nothing");
        tooLarge("in " + Texts.names("i", 32) + ";nothing");
        tooLarge("out " + Texts.names("o", 32) + ";nothing");
        good("signal " + Texts.names("s", 400) + " in nothing end");
        tooLarge("signal " + Texts.names("s", 401) + " in nothing end");
        good("in a;out b;signal " + Texts.names("s", 398) + " in nothing end");
        tooLarge("in a;out b;signal " + Texts.names("s", 399) + " in nothing end");
        good(Texts.row("pause", ";", 200));
        tooLarge(Texts.row("pause", ";", 201));
        good(Texts.row("halt", "||", 200));
        tooLarge(Texts.row("halt", "||", 201));
        good("in a;present not " + Texts.row("a", " or ", 500) + " then nothing end");
        tooLarge("in a;present not not " + Texts.row("a", " or ", 500) + " then nothing end");
        good("in a;abort nothing when " + Texts.row("a", " and ", 250) + " end");
        tooLarge("in a;abort nothing when not not not " + Texts.row("a", " and ", 250) + " end");
        good(times("trap T in ", 8) + "exit T" + times(" end", 8));
        tooLarge(times("trap T in ", 9) + "exit T" + times(" end", 9));
        good("in a;" + times("abort ", 8) + "nothing" + times(" when a end", 8));
        tooLarge("in a;" + times("abort ", 9) + "nothing" + times(" when a end", 9));
        good("in a;" + times("trap T in ", 7) + "await a" + times(" end", 7));
        tooLarge("in a;" + times("trap T in ", 8) + "await a" + times(" end", 8));
        good("nothing||" + Texts.row("nothing", ";", 400));
        tooLarge("trap T in nothing||" + Texts.row("nothing", ";", 400) + " end");
        tooLarge(Texts.row("nothing", ";", 1200));
    }

    private static void whatReadingChanges() {
        SignalEngine x = CHECK.reads("in a;out b;loop emit b;pause end");
        x.instant(0);
        x.explore();
        x.lay();
        Check.feed(x, "emit b");
        CHECK.equal("read() with a fault", x.read(), 10);
        for (int what = 0; what <= 15; what++) {
            CHECK.equal("count(" + what + ") after it", x.count(what), 0);
        }
        gone(x);
        CHECK.refusesState("explore()", x::explore);
        CHECK.refusesState("restart()", x::restart);
        CHECK.refusesState("instant(0)", () -> x.instant(0));
        CHECK.equal("status(1)", x.status(1), 0);
        CHECK.holds("selected(0)", !x.selected(0));
        CHECK.equal("node(0, 0)", x.node(0, 0), -1);
        CHECK.equal("letter(0, 0)", x.letter(0, 0), -1);
        Check.feed(x, "in a;out b;pause;emit b");
        CHECK.equal("read() without a fault", x.read(), 0);
        gone(x);
        x.instant(0);
        x.instant(0);
        CHECK.equal("ended", x.count(11), 2);
        x.explore();
        x.lay();
        Check.feed(x, "in a;out b;pause;emit b");
        CHECK.equal("read() after an end", x.read(), 0);
        gone(x);
        CHECK.equal("it goes", x.count(11), 1);
        CHECK.equal("reactions", x.count(10), 0);
        CHECK.equal("status(1)", x.status(1), 0);
        CHECK.equal("instant(0)", x.instant(0), 0);
    }

    /** What was explored, and a net, are not there. */
    private static void gone(SignalEngine x) {
        CHECK.refusesState("next(256, 0)", () -> x.next(256, 0));
        CHECK.refusesState("shows(256, 0)", () -> x.shows(256, 0));
        CHECK.refusesState("classes()", x::classes);
        CHECK.refusesState("lay()", x::lay);
        CHECK.refusesState("pass(0)", () -> x.pass(0));
        CHECK.refusesState("go(256)", () -> x.go(256));
        CHECK.equal("distance(256)", x.distance(256), -1);
        CHECK.equal("alike(256)", x.alike(256), -1);
        CHECK.equal("level(0)", x.level(0), 0);
        CHECK.equal("size(0)", x.size(0), -1);
        CHECK.equal("count(13)", x.count(13), 0);
        CHECK.equal("count(15)", x.count(15), 0);
    }
}

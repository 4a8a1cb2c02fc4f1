import java.util.ArrayList;
import java.util.List;

/** Promises 5 to 7: node, piece, letter. */
final class TreeTest {
    private static final Check CHECK = new Check("TreeTest");

    public static void main(String[] args) {
        plainStatements();
        derivedStatements();
        rows();
        lines();
        codes();
        weights();
        pieces();
        letters();
        wrongArguments();
        CHECK.finish();
    }

    /** Kinds of all nodes in their order, one letter each. */
    private static void kinds(String text, String due) {
        SignalEngine x = CHECK.reads(text);
        StringBuilder kinds = new StringBuilder();
        for (int n = 0; n < x.count(0); n++) {
            kinds.append("npe?s;l|tx$".charAt(x.node(n, 0)));
        }
        CHECK.holds("kinds of " + text + " are " + kinds + ", due is " + due, kinds.toString().equals(due));
    }

    /** One answer for all nodes in their order. */
    private static void all(String text, int what, int... due) {
        SignalEngine x = CHECK.reads(text);
        CHECK.equal("nodes of " + text, x.count(0), due.length);
        for (int n = 0; n < due.length; n++) {
            CHECK.equal("node(" + n + ", " + what + ") of " + text, x.node(n, what), due[n]);
        }
    }

    private static void plainStatements() {
        kinds("nothing", "n");
        kinds("pause", "p");
        kinds("out a;emit a", "e");
        kinds("in a;present a then pause end", "?pn");
        kinds("in a;present a else pause end", "?np");
        kinds("in a;out b;present a then pause else emit b end", "?pe");
        kinds("in a;suspend pause when a end", "sp");
        kinds("pause;nothing", ";pn");
        kinds("loop pause end", "lp");
        kinds("pause||nothing", "|pn");
        kinds("trap T in exit T end", "tx");
        kinds("signal a in emit a end", "$e");
        kinds("signal a,b,c in emit b end", "$$$e");
        kinds("((((pause))))", "p");
        all("signal a,b,c in emit b end", 3, 0, 1, 2, 1);
        all("in a,b;out c;emit c;signal a in emit a;pause;pause end", 3, -1, 2, 3, -1, -1, 3, 0, 1);
        all("in a;suspend present a then pause end when a end", 3, 0, 1, 0, -1);
        all("in a;present a then pause else pause end", 1, 1, -1, -1);
        all("in a;present a then pause else pause end", 2, 2, -1, -1);
    }

    private static void derivedStatements() {
        kinds("halt", "lp");
        kinds("out a;sustain a", "l;ep");
        kinds("in a;await a", "tl;p?xn");
        kinds("in a;abort nothing when a end", "t|;snxl;p?xn");
        kinds("in a;weak abort nothing when a end", "t|;nxl;p?xn");
        kinds("in a;loop nothing each a end", "lt|;s;nlpxl;p?xn");
        kinds("in a;every a do nothing end", ";tl;p?xnlt|;s;nlpxl;p?xn");
        kinds("in a;abort pause;pause when a end", "t|;s;ppxl;p?xn");
        kinds("in a;weak abort nothing||pause when a end", "t|;|npxl;p?xn");
        all("in a;abort nothing when a end", 1, 1, 2, 3, 4, -1, -1, 7, 8, -1, 10, -1, -1);
        all("in a;abort nothing when a end", 2, -1, 6, 5, -1, -1, -1, -1, 9, -1, 11, -1, -1);
        all("in a;abort nothing when a end", 3, -1, -1, -1, 0, -1, 2, -1, -1, 0, 1, 2, -1);
        all("in a;every a do pause end", 3, -1, -1, -1, -1, 0, 0, 2, -1, -1, -1, -1, -1, 1, -1, 1, -1, 2, 2,
                -1, -1, 3, 2, 2, -1);
    }

    private static void rows() {
        kinds("pause;nothing;halt", ";;pnlp");
        kinds("pause;(nothing;halt)", ";p;nlp");
        kinds("(pause;nothing);halt", ";;pnlp");
        kinds("pause||nothing||halt||nothing", "|||pnlpn");
        kinds("pause||(nothing||halt)", "|p|nlp");
        kinds("pause;nothing||nothing;pause", "|;pn;np");
        kinds("pause;(nothing||nothing);pause", ";;p|nnp");
        all("pause;nothing;pause;pause", 1, 1, 2, 3, -1, -1, -1, -1);
        all("pause;nothing;pause;pause", 2, 6, 5, 4, -1, -1, -1, -1);
        all("pause;nothing;pause;pause", 3, -1, -1, -1, 0, -1, 1, 2);
    }

    private static void lines() {
        all("\nnothing", 5, 2);
        all("pause\n;\nnothing\n;\npause", 5, 1, 1, 1, 3, 5);
        all("(\n(\npause;\nnothing))\n||\npause", 5, 3, 3, 3, 4, 6);
        all("in a;\npresent\na\nthen\npause\nend", 5, 2, 5, 2);
        all("in a;\npresent\na\nelse\npause\nend", 5, 2, 2, 5);
        all("in a;\nsuspend\npause\nwhen\na\nend", 5, 2, 3);
        all("\nsignal\na,\nb\nin\nemit\na\nend", 5, 2, 2, 6);
        all("trap\nT\nin\nexit\nT\nend", 5, 1, 4);
        all("\nhalt", 5, 2, 2);
        all("out a;\n\nsustain\na", 5, 3, 3, 3, 3);
        all("in a;\nawait\na", 5, 2, 2, 2, 2, 2, 2, 2);
        all("in a;\nabort\nnothing;\npause\nwhen\na\nend", 5, 2, 2, 2, 2, 3, 3, 4, 2, 2, 2, 2, 2, 2, 2);
        all("in a;\nweak\nabort\n(\nnothing)when\na\nend", 5, 2, 2, 2, 5, 2, 2, 2, 2, 2, 2, 2);
        all("in a;\nloop\nnothing\neach\na\nend", 5, 2, 2, 2, 2, 2, 2, 3, 2, 2, 2, 2, 2, 2, 2, 2, 2);
        all("in a;\nevery\na\ndo\npause\nend;\npause", 5, 2, 2, 2, 2, 2, 2, 2, 2, 2, 2, 2, 2, 2, 2, 2, 5, 2, 2, 2,
                2, 2, 2, 2, 2, 2, 7);
        all("loop\npause\nend;\nloop\npause\nend", 5, 1, 1, 2, 4, 5);
        all("%\n%\npause%\n||%\npause", 5, 3, 3, 5);
    }

    private static void codes() {
        all("nothing", 4, 1);
        all("pause", 4, 2);
        all("out a;emit a", 4, 1);
        all("in a;present a then pause end", 4, 3, 2, 1);
        all("pause;nothing", 4, 2, 2, 1);
        all("in a;present a then pause end;pause", 4, 2, 3, 2, 1, 2);
        all("pause||nothing", 4, 2, 2, 1);
        all("in a;present a then pause end||present a then pause end", 4, 3, 3, 2, 1, 3, 2, 1);
        all("trap T in exit T end", 4, 1, 4);
        all("trap T in trap U in exit T end;pause end", 4, 1, 4, 4, 8, 2);
        all("trap T in trap U in trap V in exit T||exit U end end end", 4, 1, 4, 8, 16, 16, 8);
        all("trap T in exit T||pause end", 4, 1, 4, 4, 2);
        all("in a;trap T in present a then exit T else pause end||nothing end", 4, 3, 6, 6, 4, 2, 1);
        all("in a;trap T in present a then exit T else pause end||pause end", 4, 3, 6, 6, 4, 2, 2);
        all("trap T in loop pause;exit T end end", 4, 2, 2, 2, 2, 4);
        all("trap T in exit T;pause end", 4, 1, 4, 4, 2);
        all("in a;abort nothing when a end", 4, 1, 4, 4, 1, 1, 4, 2, 2, 2, 5, 4, 1);
        all("in a;trap T in abort exit T when a end end", 4, 1, 4, 8, 8, 8, 8, 4, 2, 2, 2, 5, 4, 1);
        all("in a;suspend present a then nothing else pause end when a end", 4, 3, 3, 1, 2);
        all("signal s in present s then nothing else pause end end", 4, 3, 3, 1, 2);
        deepExit();
    }

    private static void deepExit() {
        StringBuilder text = new StringBuilder();
        for (int i = 0; i < 8; i++) {
            text.append("trap T").append(i).append(" in ");
        }
        text.append("exit T0").append(" end".repeat(8));
        SignalEngine x = CHECK.reads(text.toString());
        for (int n = 1; n <= 8; n++) {
            CHECK.equal("node(" + n + ", 4)", x.node(n, 4), 1 << (n + 1));
        }
        CHECK.equal("node(0, 4)", x.node(0, 4), 1);
        CHECK.equal("node(8, 3)", x.node(8, 3), 9);
        CHECK.equal("it ends at once", x.instant(0), 1);
    }

    private static void weights() {
        all("nothing", 6, 1);
        all("nothing;nothing;nothing", 6, 1, 1, 1, 2, 2);
        all("nothing;(nothing;nothing)", 6, 1, 1, 2, 2, 3);
        all("loop pause end", 6, 1, 2);
        all("loop pause;loop pause end end", 6, 1, 2, 2, 3, 4);
        all("nothing||nothing||nothing", 6, 1, 1, 1, 1, 1);
        all("in a;nothing;present a then nothing else nothing;nothing end", 6, 1, 1, 2, 2, 2, 2, 3);
        all("in a;loop suspend trap T in signal s in pause end end when a end end", 6, 1, 2, 2, 2, 2);
        all("in a;abort nothing when a end", 6, 1, 1, 1, 1, 1, 2, 1, 2, 2, 3, 3, 3);
    }

    /** One answer for all pieces in their order. */
    private static void pieces(String text, int what, int... due) {
        SignalEngine x = CHECK.reads(text);
        CHECK.equal("pieces of " + text, x.count(1), due.length);
        for (int p = 0; p < due.length; p++) {
            CHECK.equal("piece(" + p + ", " + what + ") of " + text, x.piece(p, what), due[p]);
        }
    }

    private static void pieces() {
        String text = "in a,b;present not a or b and(a or b)or a then nothing end";
        pieces(text, 0, 3, 3, 1, 0, 2, 0, 3, 0, 0, 0);
        pieces(text, 1, 1, 2, 3, 0, 5, 1, 7, 0, 1, 0);
        pieces(text, 2, 9, 4, -1, -1, 6, -1, 8, -1, -1, -1);
        pieces("in a,b,c;present a and b and c then nothing end", 0, 2, 2, 0, 0, 0);
        pieces("in a,b,c;present a and b and c then nothing end", 1, 1, 2, 0, 1, 2);
        pieces("in a,b,c;present a and b and c then nothing end", 2, 4, 3, -1, -1, -1);
        pieces("in a,b,c;present a and(b and c)then nothing end", 1, 1, 0, 3, 1, 2);
        pieces("in a;await not not(not a)", 0, 1, 1, 1, 0);
        pieces("in a,b;abort await b when a end", 1, 0, 1, 0);
        pieces("in a,b;weak abort await b when a end", 1, 1, 0);
        pieces("in a,b;loop await b each not a end", 0, 1, 0, 0, 1, 0);
        pieces("in a,b;every a do await b end", 1, 0, 0, 1, 0);
        pieces("in a,b;every a or b do nothing end", 1, 1, 0, 1, 4, 0, 1, 7, 0, 1);
        pieces("in a;signal a in await a end;await a", 1, 1, 0);
        pieces("in a;abort signal a in await a end when a end", 1, 0, 1, 0);
        pieces("pause", 0);
    }

    private static String name(SignalEngine x, int k) {
        StringBuilder name = new StringBuilder();
        for (int i = 0; x.letter(k, i) != -1 && i < 40; i++) {
            name.append((char) x.letter(k, i));
        }
        return name.toString();
    }

    private static void letters() {
        List<String> due = List.of("a", "Zz_9", "o".repeat(31), "x", "a", "y1");
        SignalEngine x = CHECK.reads("in a,Zz_9 ;out " + due.get(2) + "%\n,x;signal a in nothing end||trap T in signal y1 in exit T end end");
        List<String> names = new ArrayList<>();
        for (int k = 0; k < due.size(); k++) {
            names.add(name(x, k));
        }
        CHECK.holds("names are " + names, names.equals(due));
        CHECK.equal("letter(6, 0)", x.letter(6, 0), -1);
        CHECK.equal("letter(-1, 0)", x.letter(-1, 0), -1);
        CHECK.equal("letter(0, -1)", x.letter(0, -1), -1);
        CHECK.equal("letter(0, 1)", x.letter(0, 1), -1);
        CHECK.equal("letter(2, 31)", x.letter(2, 31), -1);
        Check.feed(x, "out other;nothing;;;;;;;;;;;;;;;;;");
        CHECK.equal("letter(0, 0) while more is fed", x.letter(0, 0), 'a');
    }

    private static void wrongArguments() {
        SignalEngine x = CHECK.reads("in a;present a then pause end");
        int[] wrong = {-1, 7, 8, Integer.MIN_VALUE, Integer.MAX_VALUE};
        for (int what : wrong) {
            CHECK.equal("node(0, " + what + ")", x.node(0, what), -1);
            CHECK.equal("piece(0, " + what + ")", x.piece(0, what), -1);
        }
        int[] missing = {-1, 3, Integer.MIN_VALUE, Integer.MAX_VALUE};
        for (int k : missing) {
            for (int what = 0; what <= 6; what++) {
                CHECK.equal("node(" + k + ", " + what + ")", x.node(k, what), -1);
                CHECK.equal("piece(" + k + ", " + what + ")", x.piece(k, what), -1);
            }
        }
        CHECK.equal("piece(1, 0)", x.piece(1, 0), -1);
        CHECK.equal("piece(0, 3)", x.piece(0, 3), -1);
        CHECK.equal("letter(0, MAX)", x.letter(0, Integer.MAX_VALUE), -1);
        CHECK.equal("letter(MAX, 0)", x.letter(Integer.MAX_VALUE, 0), -1);
    }
}

/** The edges of promises 5 to 7 and of the tree, codes and weights: node, piece, letter. */
final class TreeEdgesTest {
    private static final Check CHECK = new Check("TreeEdgesTest");
    private static final int[] FAR = {Integer.MIN_VALUE, -2, -1, 1 << 20, Integer.MAX_VALUE};

    /** One node of each kind, in lines of their own. */
    private static final String ALL_KINDS = "in i;out o;\ntrap T in\nsignal s in\nloop\npresent i then\nexit T else\n"
            + "suspend\nemit o;\npause||\nnothing when i end end end end end";

    public static void main(String[] args) {
        allKinds();
        whereANodeHasNone();
        noSuchNode();
        rowsOfOneTwoThree();
        missingOnes();
        linesOfBrackets();
        linesOfOthers();
        exitsOverTraps();
        codesOfTraps();
        codesOfPairs();
        codesOfSequences();
        weightsOfPlaces();
        numbersOfPauses();
        whereAPieceHasNone();
        noSuchPiece();
        orderOfPieces();
        lettersOfNames();
        noSuchLetter();
        CHECK.finish();
    }

    /** One answer for all nodes in their order. */
    private static void all(SignalEngine x, int what, int... due) {
        CHECK.equal("count(0)", x.count(0), due.length);
        for (int n = 0; n < due.length; n++) {
            CHECK.equal("node(" + n + ", " + what + ")", x.node(n, what), due[n]);
        }
    }

    private static void all(String text, int what, int... due) {
        all(CHECK.reads(text), what, due);
    }

    private static void allKinds() {
        SignalEngine x = CHECK.reads(ALL_KINDS);
        CHECK.about("promise 5: what = 0 its kind");
        all(x, 0, 8, 10, 6, 3, 9, 4, 7, 5, 2, 1, 0);
        CHECK.about("promise 5: 4 its codes, as bits");
        all(x, 4, 3, 6, 6, 6, 4, 2, 2, 2, 1, 2, 1);
        CHECK.about("promise 5: 5 the line of its statement's first word");
        all(x, 5, 2, 3, 4, 5, 6, 7, 8, 8, 8, 9, 10);
        CHECK.about("promise 5: 6 its weight");
        all(x, 6, 1, 1, 1, 2, 2, 2, 2, 2, 2, 3, 2);
    }

    private static void whereANodeHasNone() {
        SignalEngine x = CHECK.reads(ALL_KINDS);
        CHECK.about("promise 5: 1 its first (or only) node within, NONE where it has none");
        all(x, 1, 1, 2, 3, 4, -1, 6, 7, 8, -1, -1, -1);
        CHECK.about("promise 5: 2 its second, NONE where it has none");
        all(x, 2, -1, -1, -1, 5, -1, -1, 10, 9, -1, -1, -1);
        CHECK.about("promise 5: 3 its number, NONE where it has none");
        all(x, 3, -1, 2, -1, 0, 2, 1, -1, -1, 1, 0, -1);
    }

    private static void noSuchNode() {
        SignalEngine x = CHECK.reads(ALL_KINDS);
        CHECK.about("promise 5: NONE for others");
        for (int n = 0; n < 11; n++) {
            CHECK.none("node(" + n + ", -1)", x.node(n, -1));
            CHECK.none("node(" + n + ", 7)", x.node(n, 7));
            for (int what : FAR) {
                CHECK.none("node(" + n + ", " + what + ")", x.node(n, what));
            }
        }
        CHECK.about("promise 5: NONE when there is no such node");
        CHECK.equal("node(10, 0), the last one", x.node(10, 0), 0);
        for (int what = -1; what <= 7; what++) {
            CHECK.none("node(11, " + what + ")", x.node(11, what));
            CHECK.none("node(-1, " + what + ")", x.node(-1, what));
            for (int k : FAR) {
                CHECK.none("node(" + k + ", " + what + ")", x.node(k, what));
            }
        }
        SignalEngine y = CHECK.reads("nothing");
        CHECK.equal("node(0, 0) of one node", y.node(0, 0), 0);
        CHECK.none("node(1, 0) of one node", y.node(1, 0));
    }

    private static void rowsOfOneTwoThree() {
        CHECK.about("terms, tree: a row of one, two and more");
        all("pause", 0, 1);
        all("pause;nothing", 0, 5, 1, 0);
        all("pause;nothing;nothing", 0, 5, 5, 1, 0, 0);
        all("pause||nothing", 0, 7, 1, 0);
        all("pause||nothing||nothing", 0, 7, 7, 1, 0, 0);
        CHECK.about("terms, tree: ( ) leaves nothing");
        all("((pause))", 0, 1);
        all("pause;(nothing;nothing)", 0, 5, 1, 5, 0, 0);
        all("(pause;nothing);nothing", 0, 5, 5, 1, 0, 0);
        CHECK.about("terms, tree: several local signals are one within the other, the first outermost");
        all("signal r in nothing end", 3, 0, -1);
        all("signal r,s,t in nothing end", 3, 0, 1, 2, -1);
        all("out o;signal r,s in signal t in emit r end end", 3, 1, 2, 3, 1);
    }

    private static void missingOnes() {
        CHECK.about("terms, tree: nothing for one of then and else that is missing");
        all("in i;present i then pause end", 0, 3, 1, 0);
        all("in i;present i else pause end", 0, 3, 0, 1);
        all("in i;present i then pause else pause end", 0, 3, 1, 1);
        CHECK.about("promise 5: 5, of one that is missing in a present: of that one");
        all("in i;\npresent\ni\nthen\npause\nend", 5, 2, 5, 2);
        all("in i;\npresent\ni\nelse\npause\nend", 5, 2, 2, 5);
    }

    private static void linesOfBrackets() {
        CHECK.about("promise 5: 5, of a sequence or both that the text has: of its first statement");
        all("\npause\n;\nnothing", 5, 2, 2, 4);
        all("\npause\n||\nnothing", 5, 2, 2, 4);
        all("\npause\n;\nnothing\n;\nnothing", 5, 2, 2, 2, 4, 6);
        CHECK.about("promise 5: 5, if that is ( BODY ), of what is first in it");
        all("(\npause)\n;\nnothing", 5, 2, 2, 4);
        all("(\n(\npause\n;\nnothing\n)||\nnothing)\n;\nnothing", 5, 3, 3, 3, 3, 5, 7, 9);
        all("(\n(\nloop\n(\npause)end))||\n(\nnothing)", 5, 3, 3, 5, 7);
        CHECK.about("promise 5: 5, a statement in brackets has its own first word");
        all("(\n(\npause))", 5, 3);
        all("loop\n(\npause;\npause)end", 5, 1, 3, 3, 4);
    }

    private static void linesOfOthers() {
        CHECK.about("promise 5: 5, of all that stands for another one: of that one");
        all("\nhalt", 5, 2, 2);
        all("out o;\nsustain\no", 5, 2, 2, 2, 2);
        all("in i;\nawait\ni", 5, 2, 2, 2, 2, 2, 2, 2);
        all("in i;\nabort\npause\nwhen\ni\nend", 5, 2, 2, 2, 2, 3, 2, 2, 2, 2, 2, 2, 2);
        all("in i;\nweak\nabort\npause\nwhen\ni\nend", 5, 2, 2, 2, 4, 2, 2, 2, 2, 2, 2, 2);
        all("in i;\nloop\npause\neach\ni\nend", 5, 2, 2, 2, 2, 2, 2, 3, 2, 2, 2, 2, 2, 2, 2, 2, 2);
        all("in i;\nevery\ni\ndo\n(\npause)end", 5, 2, 2, 2, 2, 2, 2, 2, 2, 2, 2, 2, 2, 2, 2, 6, 2, 2, 2, 2, 2, 2, 2, 2, 2);
        CHECK.about("promise 5: 5, each of several signals has the line of signal");
        all("\nsignal\nr\n,\ns\nin\nnothing\nend", 5, 2, 2, 7);
    }

    /** An exit to the outermost of so many traps: there are many - 1 between. */
    private static void exitsOverTraps() {
        CHECK.about("terms, codes: exit 2 and how many traps lie between it and its own");
        for (int many = 1; many <= 8; many++) {
            String text = "trap T in " + Texts.times("trap U in ", many - 1) + "exit T" + Texts.times(" end", many);
            SignalEngine x = CHECK.reads(text);
            CHECK.equal("number of the exit", x.node(many, 3), 1 + many);
            CHECK.equal("codes of the exit", x.node(many, 4), 1 << (1 + many));
            for (int n = 1; n < many; n++) {
                CHECK.equal("codes of trap " + n, x.node(n, 4), 1 << (n + 1));
            }
            CHECK.equal("codes of the trap", x.node(0, 4), 1);
        }
        SignalEngine y = CHECK.reads("in i;trap T in abort exit T when i end end");
        CHECK.equal("over the trap of abort", y.node(5, 3), 3);
        SignalEngine z = CHECK.reads("in i;trap T in every i do exit T end end");
        CHECK.equal("over the trap of every", z.node(15, 3), 3);
    }

    private static void codesOfTraps() {
        CHECK.about("terms, codes: trap: 0 for 2, one less for those above");
        all("trap T in nothing end", 4, 1, 1);
        all("trap T in pause end", 4, 2, 2);
        all("trap T in exit T end", 4, 1, 4);
        all("trap T in trap U in exit T end end", 4, 1, 4, 8);
        all("in i;trap T in trap U in present i then exit T else exit U end end end", 4, 1, 5, 12, 8, 4);
        all("in i;trap T in present i then exit T else pause end end", 4, 3, 6, 4, 2);
    }

    private static void codesOfPairs() {
        CHECK.about("terms, codes: both: the greater one of each pair");
        all("nothing||nothing", 4, 1, 1, 1);
        all("nothing||pause", 4, 2, 1, 2);
        all("trap T in pause||exit T end", 4, 1, 4, 2, 4);
        all("in i;present i then pause end||nothing", 4, 3, 3, 2, 1, 1);
        all("in i;present i then pause end||pause", 4, 2, 3, 2, 1, 2);
        all("in i;trap T in present i then exit T end||pause end", 4, 3, 6, 5, 4, 1, 2);
        all("in i;trap T in present i then exit T end||nothing end", 4, 1, 5, 5, 4, 1, 1);
    }

    private static void codesOfSequences() {
        CHECK.about("terms, codes: a sequence those of its first, but if 0 is among them, in its place the second's");
        all("pause;nothing", 4, 2, 2, 1);
        all("nothing;pause", 4, 2, 1, 2);
        all("trap T in exit T;pause end", 4, 1, 4, 4, 2);
        all("in i;trap T in present i then pause end;exit T end", 4, 3, 6, 3, 2, 1, 4);
        CHECK.about("promise 27: 8 the codes of node 0");
        CHECK.equal("count(8)", CHECK.reads("in i;present i then pause end").count(8), 3);
        CHECK.equal("count(8)", CHECK.reads("nothing").count(8), 1);
        CHECK.equal("count(8)", CHECK.reads("halt").count(8), 2);
    }

    private static void weightsOfPlaces() {
        CHECK.about("terms, weight: 1, and 1 for each loop around it and each sequence in whose second it lies");
        all("pause;pause", 6, 1, 1, 2);
        all("pause;pause;pause", 6, 1, 1, 1, 2, 2);
        all("pause;(pause;pause)", 6, 1, 1, 2, 2, 3);
        all("loop pause end", 6, 1, 2);
        all("loop loop pause end end", 6, 1, 2, 3);
        all("pause;loop pause;pause end", 6, 1, 1, 2, 3, 3, 4);
        all("in i;present i then pause else pause end||suspend trap T in signal s in pause end end when i end", 6,
                1, 1, 1, 1, 1, 1, 1, 1);
    }

    private static void numbersOfPauses() {
        CHECK.about("terms, tree: pauses 0, 1, .. in the order of their nodes");
        SignalEngine x = CHECK.reads("in i;pause;present i then halt else await i end;(pause||pause)");
        int next = 0;
        for (int n = 0; n < x.count(0); n++) {
            if (x.node(n, 0) == 1) {
                CHECK.equal("node(" + n + ", 3)", x.node(n, 3), next);
                next++;
            }
        }
        CHECK.equal("count(5)", x.count(5), next);
        CHECK.equal("count(5)", x.count(5), 5);
    }

    /** One answer for all pieces in their order. */
    private static void pieces(String text, int what, int... due) {
        SignalEngine x = CHECK.reads(text);
        CHECK.equal("count(1)", x.count(1), due.length);
        for (int k = 0; k < due.length; k++) {
            CHECK.equal("piece(" + k + ", " + what + ") of " + text, x.piece(k, what), due[k]);
        }
    }

    private static void whereAPieceHasNone() {
        String text = "in a,b,c;await a or not b and c";
        CHECK.about("promise 6: what = 0 its kind");
        pieces(text, 0, 3, 0, 2, 1, 0, 0);
        CHECK.about("promise 6: 1 its signal, or first piece");
        pieces(text, 1, 1, 0, 3, 4, 1, 2);
        CHECK.about("promise 6: 2 its second piece, NONE where it has none");
        pieces(text, 2, 2, -1, 5, -1, -1, -1);
    }

    private static void noSuchPiece() {
        SignalEngine x = CHECK.reads("in a,b,c;await a or not b and c");
        CHECK.about("promise 6: NONE for others");
        for (int k = 0; k < 6; k++) {
            CHECK.none("piece(" + k + ", 3)", x.piece(k, 3));
            CHECK.none("piece(" + k + ", -1)", x.piece(k, -1));
            for (int what : FAR) {
                CHECK.none("piece(" + k + ", " + what + ")", x.piece(k, what));
            }
        }
        CHECK.about("promise 6: NONE when there is no such piece");
        CHECK.equal("piece(5, 0), the last one", x.piece(5, 0), 0);
        SignalEngine y = CHECK.reads("pause");
        for (int what = -1; what <= 3; what++) {
            CHECK.none("piece(6, " + what + ")", x.piece(6, what));
            CHECK.none("piece(-1, " + what + ")", x.piece(-1, what));
            CHECK.none("piece(0, " + what + ") without pieces", y.piece(0, what));
            for (int k : FAR) {
                CHECK.none("piece(" + k + ", " + what + ")", x.piece(k, what));
            }
        }
    }

    private static void orderOfPieces() {
        CHECK.about("terms, tree: pieces, all in the order of their nodes, as often as e stands there");
        pieces("in a,b;await b;await a", 1, 1, 0);
        pieces("in a,b;suspend await b when a end", 1, 0, 1);
        pieces("in a,b;abort await b when a end", 1, 0, 1, 0);
        pieces("in a,b;weak abort await b when a end", 1, 1, 0);
        pieces("in a,b;loop await b each a end", 1, 0, 1, 0);
        pieces("in a,b;every a do await b end", 1, 0, 0, 1, 0);
        CHECK.about("terms, tree: three of and, or: one of two, whose first is the row without its last");
        pieces("in a,b,c;await a or b or c", 1, 1, 2, 0, 1, 2);
        pieces("in a,b,c;await a and(b and c)", 1, 1, 0, 3, 1, 2);
        CHECK.about("promise 5: 3, the piece of E of present and suspend");
        SignalEngine x = CHECK.reads("in a,b;suspend present not b then pause end when a or b end");
        CHECK.equal("node(0, 3)", x.node(0, 3), 0);
        CHECK.equal("node(1, 3)", x.node(1, 3), 3);
        CHECK.about("terms, tree: what an e says is as at its place");
        pieces("in a;abort signal a in await a end when a end", 1, 0, 1, 0);
        pieces("in a;every a do signal a in await a end end", 1, 0, 0, 1, 0);
    }

    private static void lettersOfNames() {
        CHECK.about("promise 7: the i-th character, from 0 on, of the name of signal k (also a local one)");
        String longest = "Zz_" + Texts.times("09az", 7);
        SignalEngine x = CHECK.reads("in i," + longest + ";out o;signal " + longest + ",s in nothing end");
        String[] names = {"i", longest, "o", longest, "s"};
        for (int k = 0; k < names.length; k++) {
            for (int i = 0; i < names[k].length(); i++) {
                CHECK.equal("letter(" + k + ", " + i + ")", x.letter(k, i), names[k].charAt(i));
            }
            CHECK.none("letter(" + k + ", -1)", x.letter(k, -1));
            CHECK.none("letter(" + k + ", behind the last)", x.letter(k, names[k].length()));
            for (int i : FAR) {
                CHECK.none("letter(" + k + ", " + i + ")", x.letter(k, i));
            }
        }
        CHECK.equal("longest name", longest.length(), 31);
    }

    private static void noSuchLetter() {
        CHECK.about("promise 7: NONE when there is none");
        SignalEngine x = CHECK.reads("in i;out o;trap T in signal s in nothing end end");
        CHECK.equal("letter(2, 0), the last signal", x.letter(2, 0), 's');
        CHECK.none("letter(3, 0), no signal: a trap", x.letter(3, 0));
        CHECK.none("letter(-1, 0)", x.letter(-1, 0));
        for (int k : FAR) {
            CHECK.none("letter(" + k + ", 0)", x.letter(k, 0));
        }
        SignalEngine y = CHECK.reads("pause");
        CHECK.none("letter(0, 0) without signals", y.letter(0, 0));
    }
}

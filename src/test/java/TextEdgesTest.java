/** The edges of what promise 4 reads, by the terms: text, tokens, names, program, statements, scopes. */
final class TextEdgesTest {
    private static final Check CHECK = new Check("TextEdgesTest");

    public static void main(String[] args) {
        bytesBehindPercent();
        bytesBetweenTokens();
        firstWrongByte();
        wrongByteBeforeAllOthers();
        ends();
        gaps();
        percent();
        firstOfWords();
        othersOfWords();
        longestWords();
        asLongAsCanBe();
        reservedWords();
        noFirstTokens();
        nearlyReservedWords();
        bars();
        oneOrMore();
        perhapsInAndOut();
        thenAndElse();
        endsOfStatements();
        scopesOfSignals();
        scopesOfTraps();
        hiding();
        inputsAreNotEmitted();
        CHECK.finish();
    }

    private static boolean isCharacter(int b) {
        return b == 9 || b == 10 || (b >= 32 && b <= 126);
    }

    private static void bytesBehindPercent() {
        CHECK.about("terms, text: characters 9, 10, 32 .. 126; a byte that is none of these, also behind a %");
        for (int b = 0; b < 256; b++) {
            CHECK.fault("pause %" + (char) b, isCharacter(b) ? 0 : 1, isCharacter(b) ? 0 : 1);
        }
    }

    private static void bytesBetweenTokens() {
        CHECK.about("terms, text: what may stand behind a token and is none");
        for (int b = 0; b < 256; b++) {
            boolean fine = b == 9 || b == 10 || b == 32 || b == '%';
            CHECK.fault("nothing" + (char) b, fine ? 0 : 1, fine ? 0 : 1);
            if (b != '(') {
                CHECK.fault((char) b + "\nnothing", fine ? 0 : 1, fine ? 0 : 1);
            }
        }
        CHECK.fault("(\nnothing", 1, 2);
    }

    private static void firstWrongByte() {
        CHECK.about("terms, text: fault 1 in its line, the first of them");
        CHECK.fault("\u0001\n\u0001", 1, 1);
        CHECK.fault("\n\u0001\n\u0001", 1, 2);
        CHECK.fault("pause\n%\n%\u007f\n\u0001", 1, 3);
        CHECK.fault("pause%\u0000\u0000\n", 1, 1);
        CHECK.fault("pause\n\n\n\n\u00ff", 1, 5);
        CHECK.fault("pause\n\u000b\n", 1, 2);
    }

    private static void wrongByteBeforeAllOthers() {
        CHECK.about("terms, text: a byte that is no character, before all other faults");
        String[] faulty = {";", "emit o", "out o,o;nothing", "loop nothing end", Texts.bracketed("pause", 24),
            Texts.row("pause", ";", 201), "!", Texts.times("a", 32), "1"};
        for (String text : faulty) {
            CHECK.fault(text + "\n\n%\u001f", 1, 3);
            CHECK.fault(text + "\n\u007f", 1, 2);
        }
    }

    private static void ends() {
        CHECK.about("terms, faults: the end, in the line in which the text ends: one more than it has 10s");
        CHECK.fault("", 1, 1);
        CHECK.fault("%", 1, 1);
        CHECK.fault("\n", 1, 2);
        CHECK.fault("%\n", 1, 2);
        CHECK.fault("loop pause", 1, 1);
        CHECK.fault("loop\npause", 1, 2);
        CHECK.fault("loop\npause\n", 1, 3);
        CHECK.fault("loop\npause\n%\n\n\t ", 1, 5);
        CHECK.fault(Texts.times("\n", 400), 1, 401);
    }

    private static void gaps() {
        CHECK.about("terms, text: 9, 10 and 32 stand between tokens or not, and end what is in front of them");
        CHECK.good("in a,b;out o;present(not(a)or b)then emit o end;(pause||nothing)");
        CHECK.good("in\ta\n,\tb ;\nout\n o\t;\n\npresent\t(\nnot ( a )or\nb)\tthen emit\no end ; ( pause || nothing\n)\n");
        String[] gaps = {"\t", "\n", " "};
        for (String gap : gaps) {
            CHECK.good(gap + "pause" + gap + ";" + gap + "pause" + gap);
            CHECK.fault("pau" + gap + "se", 1, 1);
            CHECK.fault("pause|" + gap + "|pause", 1, 1);
            CHECK.fault("out ab;emit a" + gap + "b", 2, 1);
        }
        CHECK.about("terms, text: a line ends with 10 alone");
        CHECK.fault("pause\t\t;\t;", 1, 1);
        CHECK.fault("pause\n\n;\n;", 1, 4);
    }

    private static void percent() {
        CHECK.about("terms, text: from a % on a line says nothing");
        SignalEngine x = CHECK.reads("pause % ;pause\n;nothing%");
        CHECK.equal("nodes", x.count(0), 3);
        CHECK.good("pause%;;\n%;;");
        CHECK.good("%%%\n%\n pause");
        CHECK.good("pause% ~ ! \" # { | } |||");
        CHECK.fault("pause%\n;", 1, 2);
        CHECK.fault("pa%\nuse", 1, 1);
        CHECK.fault("pause|%\n|pause", 1, 1);
        CHECK.fault("% pause", 1, 1);
    }

    private static void firstOfWords() {
        CHECK.about("terms, tokens: the first of a word is a letter");
        for (int b = 33; b <= 126; b++) {
            boolean letter = Character.isLetter(b);
            CHECK.fault("in\n" + (char) b + "x;nothing", letter ? 0 : 1, letter ? 0 : 2);
        }
        CHECK.fault("in a;await\n0", 1, 2);
        CHECK.fault("in a;await\n_a", 1, 2);
        CHECK.fault("out o;emit\n9o", 1, 2);
    }

    private static void othersOfWords() {
        CHECK.about("terms, tokens: words of letters, digits and _");
        for (int b = 33; b <= 126; b++) {
            boolean in = Character.isLetterOrDigit(b) || b == '_';
            if (b != ';' && b != ',' && b != '%') {
                CHECK.fault("in x" + (char) b + ",y;nothing", in ? 0 : 1, in ? 0 : 1);
            }
        }
        SignalEngine x = CHECK.reads("in azAZ09_;nothing");
        String name = "azAZ09_";
        for (int i = 0; i < name.length(); i++) {
            CHECK.equal("letter(0, " + i + ")", x.letter(0, i), name.charAt(i));
        }
        CHECK.about("terms, tokens: small and great letters are not the same");
        CHECK.good("in a,A;nothing");
        CHECK.fault("out a;emit A", 2, 1);
    }

    private static void longestWords() {
        CHECK.about("terms, tokens: a word of more than 31 is fault 1");
        String[] heads = {"in ", "out ", "signal ", "in a;out ", "signal a,"};
        String[] tails = {";nothing", ";nothing", " in nothing end", ";nothing", " in nothing end"};
        String longest = "a" + Texts.times("_9Z", 10);
        for (int i = 0; i < heads.length; i++) {
            CHECK.good(heads[i] + longest + tails[i]);
            CHECK.fault(heads[i] + "\n" + longest + "b" + tails[i], 1, 2);
        }
        CHECK.good("trap " + longest + " in exit " + longest + " end");
        CHECK.fault("trap\n" + longest + "1 in nothing end", 1, 2);
        CHECK.good("out " + longest + ";emit " + longest);
        CHECK.fault("out " + longest + ";emit\n" + longest + "_", 1, 2);
        CHECK.fault("out " + longest + ";await\n" + longest + "_", 1, 2);
        CHECK.fault("trap " + longest + " in exit\n" + longest + "_ end", 1, 2);
        CHECK.fault("pause;\n" + Texts.times("pause", 7), 1, 2);
        CHECK.fault("in " + Texts.times("a", 200) + ";nothing", 1, 1);
        CHECK.good("in " + longest + "%" + longest + "\n;nothing");
    }

    private static void asLongAsCanBe() {
        CHECK.about("terms, tokens: words, as long as can be");
        CHECK.fault("pausepause", 1, 1);
        CHECK.fault("pause1", 1, 1);
        CHECK.fault("pause_", 1, 1);
        CHECK.fault("inx;nothing", 1, 1);
        CHECK.fault("in x;awaitx", 1, 1);
        CHECK.fault("in x;await notx", 2, 1);
        CHECK.good("in x,notx;await notx");
        CHECK.fault("in x;await x orx", 1, 1);
        CHECK.good("in x;await(x)or(x)and not(x)");
        CHECK.good("loop(pause)end");
    }

    private static void reservedWords() {
        CHECK.about("terms, tokens: a name is a word but these");
        for (String word : Texts.RESERVED) {
            CHECK.fault("in\n" + word + ";nothing", 1, 2);
            CHECK.fault("out\n" + word + ";nothing", 1, 2);
            CHECK.fault("in a,\n" + word + ";nothing", 1, 2);
            CHECK.fault("signal\n" + word + " in nothing end", 1, 2);
            CHECK.fault("trap\n" + word + " in nothing end", 1, 2);
            CHECK.fault("out a;emit\n" + word, 1, 2);
            CHECK.fault("out a;sustain\n" + word, 1, 2);
            CHECK.fault("exit\n" + word, 1, 2);
            if (!word.equals("not")) {
                CHECK.fault("in a;await\n" + word, 1, 2);
            }
        }
        CHECK.equal("words that are no names", Texts.RESERVED.length, 26);
    }

    private static void noFirstTokens() {
        CHECK.about("terms, statements: tokens with which no statement begins");
        String[] tokens = {"in", "out", "then", "else", "end", "when", "each", "not", "and", "or", "do", ";", ",", ")", "||",
            "o", "T"};
        for (String token : tokens) {
            CHECK.fault("out o;trap T in nothing;\n" + token + " nothing) end", 1, 2);
            CHECK.fault("out o;trap T in nothing||\n" + token + " nothing end end", 1, 2);
            CHECK.fault("out o;loop\n" + token, 1, 2);
        }
    }

    private static void nearlyReservedWords() {
        CHECK.about("terms, tokens: these words, as they are written there");
        for (String word : Texts.RESERVED) {
            String great = word.substring(0, 1).toUpperCase() + word.substring(1);
            String[] names = {great, word.toUpperCase(), word + "1", word + "_", word + "s",
                word.substring(0, word.length() - 1)};
            for (String name : names) {
                CHECK.good("out " + name + ";emit " + name + ";present " + name + " then nothing end");
                CHECK.good("trap " + name + " in signal " + name + " in emit " + name + ";exit " + name + " end end");
            }
            CHECK.fault(great, 1, 1);
        }
    }

    private static void bars() {
        CHECK.about("terms, tokens: ||");
        CHECK.good("pause||pause");
        CHECK.fault("pause|pause", 1, 1);
        CHECK.fault("pause|||pause", 1, 1);
        CHECK.fault("pause||||pause", 1, 1);
        CHECK.fault("pause\n|", 1, 2);
        CHECK.fault("pause\n||", 1, 2);
    }

    private static void oneOrMore() {
        CHECK.about("terms, program: one or more names");
        CHECK.good("in a;nothing");
        CHECK.fault("in\n;nothing", 1, 2);
        CHECK.fault("in a,\n;nothing", 1, 2);
        CHECK.fault("in\n,a;nothing", 1, 2);
        CHECK.fault("out\n;nothing", 1, 2);
        CHECK.fault("signal\nin nothing end", 1, 2);
        CHECK.fault("signal a,\nin nothing end", 1, 2);
        CHECK.fault("trap\nin nothing end", 1, 2);
        CHECK.fault("trap T\n,U in nothing end", 1, 2);
        CHECK.about("terms, program: one or more rows, one or more statements");
        CHECK.good("(nothing)");
        CHECK.fault("(\n)", 1, 2);
        CHECK.fault("nothing||\n", 1, 2);
        CHECK.fault("nothing;\n", 1, 2);
        CHECK.fault("nothing;\n;nothing", 1, 2);
        CHECK.fault("nothing||\n||nothing", 1, 2);
        CHECK.fault("nothing;\n||nothing", 1, 2);
        CHECK.fault("loop\nend", 1, 2);
        CHECK.fault("in a;\n", 1, 2);
        CHECK.about("terms, program: one or more clauses, one or more parts");
        CHECK.good("in a;await a");
        CHECK.fault("in a;await\n", 1, 2);
        CHECK.fault("in a;await(\n)", 1, 2);
        CHECK.fault("in a;await a or\n", 1, 2);
        CHECK.fault("in a;await a or\nor a", 1, 2);
        CHECK.fault("in a;await a or\nand a", 1, 2);
        CHECK.fault("in a;await a and\nor a", 1, 2);
        CHECK.fault("in a;await a and not\n", 1, 2);
        CHECK.fault("in a;await not\nor a", 1, 2);
    }

    private static void perhapsInAndOut() {
        CHECK.about("terms, program: perhaps in, then perhaps out, then a body, and nothing else");
        CHECK.good("nothing");
        CHECK.good("in a;nothing");
        CHECK.good("out a;nothing");
        CHECK.good("in a;out b;nothing");
        CHECK.fault("out b;\nin a;nothing", 1, 2);
        CHECK.fault("in a;\nin b;nothing", 1, 2);
        CHECK.fault("out a;\nout b;nothing", 1, 2);
        CHECK.fault("in a\nnothing", 1, 2);
        CHECK.fault("in a\nout b;nothing", 1, 2);
        CHECK.fault("nothing;\nin a;nothing", 1, 2);
        CHECK.fault("nothing\nnothing", 1, 2);
        CHECK.fault("nothing\nend", 1, 2);
        CHECK.fault("nothing\n)", 1, 2);
        CHECK.fault("nothing\n,", 1, 2);
    }

    private static void thenAndElse() {
        CHECK.about("terms, statements: present, one of then and else at least, in this order");
        CHECK.good("in a;present a then nothing end");
        CHECK.good("in a;present a else nothing end");
        CHECK.good("in a;present a then nothing else nothing end");
        CHECK.fault("in a;present a\nend", 1, 2);
        CHECK.fault("in a;present a else nothing\nthen nothing end", 1, 2);
        CHECK.fault("in a;present a then nothing\nthen nothing end", 1, 2);
        CHECK.fault("in a;present a else nothing\nelse nothing end", 1, 2);
        CHECK.fault("in a;present a then\nend", 1, 2);
        CHECK.fault("in a;present a then nothing else\nend", 1, 2);
        CHECK.fault("in a;present\nthen nothing end", 1, 2);
    }

    private static void endsOfStatements() {
        CHECK.about("terms, statements: each of them from its first token to its last");
        String[] whole = {"(pause)", "nothing", "pause", "halt", "emit o", "sustain o", "present a then pause end",
            "suspend pause when a end", "loop pause end", "loop pause each a end", "trap T in pause end",
            "signal s in pause end", "await a", "abort pause when a end", "weak abort pause when a end",
            "every a do pause end"};
        for (String text : whole) {
            CHECK.good("in a;out o;" + text);
            String[] tokens = text.replace("(", "( ").replace(")", " )").split(" ");
            StringBuilder part = new StringBuilder("in a;out o;");
            for (int i = 0; i < tokens.length; i++) {
                if (i > 0) {
                    CHECK.fault(part + "\n", 1, 2);
                    CHECK.fault(part + "\n;", 1, 2);
                }
                part.append(tokens[i]).append(' ');
            }
            CHECK.fault(part + "\npause", 1, 2);
        }
    }

    private static void scopesOfSignals() {
        CHECK.about("terms, scopes: a name after signal is one within its body");
        CHECK.good("signal s in nothing;emit s||present s then nothing end end");
        CHECK.fault("signal s in nothing end;\nemit s", 2, 2);
        CHECK.fault("signal s in nothing end||\nemit s", 2, 2);
        CHECK.fault("signal s in nothing end;await\ns", 2, 2);
        CHECK.fault("emit\ns;signal s in nothing end", 2, 2);
        CHECK.fault("suspend signal s in pause end when\ns end", 2, 2);
        CHECK.good("signal s in suspend pause when s end end");
        CHECK.good("signal s,t in emit s;emit t end");
        CHECK.fault("signal s,t in emit s;emit t end;\nemit t", 2, 2);
        CHECK.good("out o;signal s in signal t in emit s;emit t;emit o end end");
        CHECK.fault("signal s in signal t in nothing end;\nemit t end", 2, 2);
        CHECK.about("terms, scopes: in and out are signals everywhere");
        CHECK.good("in a;out o;signal s in loop present a then emit o;pause else halt end end end");
    }

    private static void scopesOfTraps() {
        CHECK.about("terms, scopes: trap's name, another kind of names, within its body");
        CHECK.good("trap T in nothing;exit T||exit T end");
        CHECK.fault("trap T in nothing end;\nexit T", 2, 2);
        CHECK.fault("trap T in nothing end||\nexit T", 2, 2);
        CHECK.fault("exit\nT;trap T in nothing end", 2, 2);
        CHECK.fault("trap T in\nemit T end", 2, 2);
        CHECK.fault("trap T in await\nT end", 2, 2);
        CHECK.fault("in T;\nexit T", 2, 2);
        CHECK.fault("signal T in\nexit T end", 2, 2);
        CHECK.good("out T;trap T in emit T;exit T end");
    }

    private static void signalOf(SignalEngine x, int node, int kind, int number) {
        CHECK.equal("kind of node " + node, x.node(node, 0), kind);
        CHECK.equal("number of node " + node, x.node(node, 3), number);
    }

    private static void hiding() {
        CHECK.about("terms, scopes: inner ones hide outer ones");
        SignalEngine x = CHECK.reads("out a;emit a;signal a in emit a;signal a in emit a end;emit a end;emit a");
        signalOf(x, 2, 2, 0);
        signalOf(x, 3, 10, 1);
        signalOf(x, 6, 2, 1);
        signalOf(x, 7, 10, 2);
        signalOf(x, 8, 2, 2);
        signalOf(x, 9, 2, 1);
        signalOf(x, 10, 2, 0);
        SignalEngine y = CHECK.reads("trap T in trap T in exit T end;trap U in exit T end end");
        signalOf(y, 3, 9, 2);
        signalOf(y, 5, 9, 3);
        CHECK.about("terms, scopes: signals 0, 1, .. in their order, those after signal in the order of the text");
        SignalEngine z = CHECK.reads("in b;out a;signal d,c in nothing end;signal b in emit b;signal e in emit a end end");
        String names = "badcbe";
        for (int k = 0; k < names.length(); k++) {
            CHECK.equal("letter(" + k + ", 0)", z.letter(k, 0), names.charAt(k));
        }
        CHECK.none("letter(6, 0)", z.letter(6, 0));
    }

    private static void inputsAreNotEmitted() {
        CHECK.about("terms, scopes: emit and sustain need a signal that is no input");
        CHECK.good("in a;out o;emit o;sustain o");
        CHECK.fault("in a;out o;emit\na", 2, 2);
        CHECK.fault("in a;out o;sustain\na", 2, 2);
        CHECK.fault("in a,b;out o;emit\nb", 2, 2);
        CHECK.good("in a;signal a in emit a;sustain a end");
        CHECK.fault("in a;signal a in emit a end;emit\na", 2, 2);
        CHECK.good("in a;out o;await a or o");
    }
}

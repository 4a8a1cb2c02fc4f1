/** The edges of promises 23 to 26 and of the net: lay, pass, level, size. */
final class NetEdgesTest {
    private static final Check CHECK = new Check("NetEdgesTest");
    private static final int[] FAR = {Integer.MIN_VALUE, -8192, -2, -1, 8192, 8193, 1 << 20, Integer.MAX_VALUE};
    private static final String DOUBT = "present o else emit o end";

    /** Functions: o, never true; p and pause 0, true on 4096 alone; the end, true on 2048 and 2056. */
    private static final String SMALL = "in a;out o,p;emit p;present a then " + DOUBT + " end;pause";

    public static void main(String[] args) {
        layThrows();
        layOnceMore();
        layAnew();
        passThrows();
        passOfAllChoices();
        bitsOfPauses();
        bitsOfInputs();
        allFalse();
        fewestFunctions();
        mostFunctions();
        constants();
        levels();
        sizes();
        sharing();
        highestBit();
        CHECK.finish();
    }

    private static SignalEngine lays(String text, int multiplexers) {
        SignalEngine x = CHECK.reads(text);
        x.explore();
        CHECK.equal("lay() of " + text, x.lay(), multiplexers);
        CHECK.equal("count(15)", x.count(15), multiplexers);
        return x;
    }

    private static void layThrows() {
        CHECK.about("promise 23: IllegalStateException when nothing is explored");
        SignalEngine x = new SignalEngine();
        CHECK.refusesState("lay() without a program", x, x::lay);
        SignalEngine y = CHECK.reads("pause");
        CHECK.refusesState("lay() of what is only read", y, y::lay);
        y.instant(0);
        CHECK.refusesState("lay() of what only runs", y, y::lay);
        SignalEngine z = CHECK.reads(Texts.row("pause", ";", 9));
        z.explore();
        CHECK.refusesState("lay() of what is too large", z, z::lay);
        y.explore();
        CHECK.equal("lay()", y.lay(), 15);
        Check.feed(y, "pause");
        y.read();
        CHECK.refusesState("lay() of what is read anew", y, y::lay);
        y.read();
        CHECK.refusesState("lay() after a fault", y, y::lay);
    }

    private static void layOnceMore() {
        CHECK.about("promise 23: the net is laid out, once more too");
        SignalEngine x = lays(SMALL, 22);
        CHECK.unchanged("lay()", x, () -> CHECK.equal("lay() once more", x.lay(), 22));
        x.instant(0);
        x.go(1);
        x.restart();
        CHECK.equal("count(15): it stays when the program runs", x.count(15), 22);
        x.explore();
        CHECK.equal("count(15): it stays when it is explored once more", x.count(15), 22);
        CHECK.equal("pass(4096)", x.pass(4096), 6);
    }

    private static void layAnew() {
        CHECK.about("promise 23: the net of another program has nothing of the one before");
        SignalEngine x = lays(SMALL, 22);
        Check.feed(x, "nothing");
        x.read();
        CHECK.equal("count(15) of what is read", x.count(15), 0);
        x.explore();
        CHECK.equal("count(15) of what is explored", x.count(15), 0);
        CHECK.equal("level(0)", x.level(0), 0);
        CHECK.none("size(0)", x.size(0));
        CHECK.refusesState("pass(4096)", x, () -> x.pass(4096));
        CHECK.equal("lay()", x.lay(), 13);
        CHECK.equal("size(0)", x.size(0), 13);
        CHECK.none("size(1)", x.size(1));
        CHECK.equal("level(0)", x.level(0), 1);
        CHECK.equal("pass(4096)", x.pass(4096), 1);
        CHECK.equal("pass(2048)", x.pass(2048), 0);
    }

    private static void passThrows() {
        CHECK.about("promise 24: IllegalStateException when it is not laid out");
        SignalEngine x = new SignalEngine();
        CHECK.refusesState("pass(0) without a program", x, () -> x.pass(0));
        SignalEngine y = CHECK.reads("pause");
        CHECK.refusesState("pass(0) of what is read", y, () -> y.pass(0));
        y.explore();
        CHECK.refusesState("pass(0) of what is explored", y, () -> y.pass(0));
        CHECK.about("promise 24: IllegalStateException before IllegalArgumentException");
        for (int choice : FAR) {
            CHECK.refusesState("pass(" + choice + ") without a program", () -> x.pass(choice));
            CHECK.refusesState("pass(" + choice + ") of what is explored", y, () -> y.pass(choice));
        }
        CHECK.about("promise 24: else IllegalArgumentException when choice is not 0 .. 8191");
        y.lay();
        for (int choice : FAR) {
            CHECK.refusesArgument("pass(" + choice + ")", y, () -> y.pass(choice));
        }
        CHECK.equal("pass(0)", y.pass(0), 0);
        CHECK.equal("pass(8191)", y.pass(8191), 0);
    }

    private static void passOfAllChoices() {
        CHECK.about("promise 24: the truths of its functions, as bits (bit i: the i-th)");
        SignalEngine x = lays(SMALL, 22);
        for (int choice = 0; choice < 8192; choice++) {
            int due = choice == 4096 ? 6 : choice == 2048 || choice == 2056 ? 8 : 0;
            CHECK.equal("pass(" + choice + ")", x.pass(choice), due);
        }
    }

    private static void bitsOfPauses() {
        CHECK.about("terms, net: 4096 for first, bit 11 - k for pause k (0 .. 7)");
        SignalEngine x = CHECK.explores("out o;" + Texts.row("pause", ";", 8) + ";emit o", 9);
        x.lay();
        CHECK.equal("pass(4096): to pause 0", x.pass(4096), 2);
        int[] choices = {2048, 1024, 512, 256, 128, 64, 32};
        for (int k = 0; k < 7; k++) {
            CHECK.equal("pass(" + choices[k] + "): to pause " + (k + 1), x.pass(choices[k]), 4L << k);
        }
        CHECK.equal("pass(16): the end, and o", x.pass(16), 512 + 1);
        CHECK.equal("pass(8)", x.pass(8), 0);
        SignalEngine y = CHECK.explores(Texts.row("pause", "||", 8), 2);
        y.lay();
        CHECK.equal("pass(4096): to all pauses", y.pass(4096), 255);
        CHECK.equal("pass(4080): from all pauses to the end", y.pass(4080), 256);
        CHECK.equal("pass(4064): one is missing", y.pass(4064), 0);
        CHECK.equal("pass(2032): one is missing", y.pass(2032), 0);
    }

    private static void bitsOfInputs() {
        CHECK.about("terms, net: bit 3 - k for input k");
        SignalEngine x = CHECK.explores("in a,b,c,d;out p,q,r,s;present a then emit p end;present b then emit q end;"
                + "present c then emit r end;present d then emit s end", 1);
        x.lay();
        int[] choices = {8, 4, 2, 1};
        for (int k = 0; k < 4; k++) {
            CHECK.equal("pass(4096 + " + choices[k] + ")", x.pass(4096 + choices[k]), 16 + (1 << k));
        }
        CHECK.equal("pass(4096)", x.pass(4096), 16);
        CHECK.equal("pass(4096 + 15)", x.pass(4096 + 15), 31);
        CHECK.equal("pass(15)", x.pass(15), 0);
    }

    private static void allFalse() {
        SignalEngine x = lays(SMALL, 22);
        CHECK.about("terms, net: on a choice whose state is not reachable all are false");
        CHECK.equal("pass(0), no pause", x.pass(0), 0);
        CHECK.equal("pass(8), no pause", x.pass(8), 0);
        CHECK.about("terms, net: 4096 with a pause's bit is none");
        CHECK.equal("pass(4096 + 2048)", x.pass(4096 + 2048), 0);
        CHECK.equal("pass(4096 + 2056)", x.pass(4096 + 2056), 0);
        CHECK.about("terms, net: on a choice on which there is no reaction");
        CHECK.equal("pass(4096 + 8)", x.pass(4096 + 8), 0);
        CHECK.about("terms, net: with a bit of a pause that there is not");
        for (int bit = 16; bit <= 1024; bit *= 2) {
            CHECK.equal("pass(2048 + " + bit + ")", x.pass(2048 + bit), 0);
            CHECK.equal("pass(4096 + " + bit + ")", x.pass(4096 + bit), 0);
        }
        CHECK.about("terms, net: with a bit of an input that there is not");
        for (int bit = 1; bit <= 4; bit *= 2) {
            CHECK.equal("pass(2048 + " + bit + ")", x.pass(2048 + bit), 0);
            CHECK.equal("pass(2048 + 8 + " + bit + ")", x.pass(2048 + 8 + bit), 0);
            CHECK.equal("pass(4096 + " + bit + ")", x.pass(4096 + bit), 0);
        }
        SignalEngine y = CHECK.explores("pause||pause;pause", 3);
        y.lay();
        CHECK.about("terms, net: a set of pauses that are there, but not reachable");
        CHECK.equal("pass of pauses 0 and 1", y.pass(2048 + 1024), 4);
        CHECK.equal("pass of pause 2", y.pass(512), 8);
        CHECK.equal("pass of pause 0", y.pass(2048), 0);
        CHECK.equal("pass of pauses 0, 1, 2", y.pass(2048 + 1024 + 512), 0);
    }

    private static void fewestFunctions() {
        CHECK.about("terms, net: one for each output, then one for each pause, then one: the end");
        SignalEngine x = lays("nothing", 13);
        CHECK.equal("size(0), the end alone", x.size(0), 13);
        CHECK.none("size(1)", x.size(1));
        CHECK.equal("pass(4096)", x.pass(4096), 1);
    }

    private static void mostFunctions() {
        CHECK.about("terms, net: 31 outputs, 8 pauses, the end: 40 functions");
        SignalEngine x = CHECK.explores("in a,b,c,d;out " + Texts.names("o", 31) + ";emit o0;emit o30;"
                + Texts.row("pause", "||", 8) + ";emit o30", 2);
        x.lay();
        long all = 255L << 31;
        CHECK.equal("pass(4096)", x.pass(4096), all | 1 | 1L << 30);
        CHECK.equal("pass(4096 + 15)", x.pass(4096 + 15), all | 1 | 1L << 30);
        CHECK.equal("pass(4080)", x.pass(4080), 1L << 39 | 1L << 30);
        CHECK.equal("pass(4080 + 15)", x.pass(4095), 1L << 39 | 1L << 30);
        CHECK.equal("size(39)", x.size(39), 9);
        CHECK.none("size(40)", x.size(40));
        CHECK.none("size(41)", x.size(41));
    }

    private static void constants() {
        CHECK.about("promise 23: a net without a multiplexer");
        SignalEngine x = lays("out o;" + DOUBT, 0);
        for (int v = -1; v <= 13; v++) {
            CHECK.equal("level(" + v + ")", x.level(v), 0);
        }
        CHECK.about("promise 26: a function that is the same for all choices has none");
        CHECK.equal("size(0)", x.size(0), 0);
        CHECK.equal("size(1)", x.size(1), 0);
        CHECK.none("size(2)", x.size(2));
        CHECK.equal("pass(4096)", x.pass(4096), 0);
    }

    private static void levels() {
        CHECK.about("promise 25: how many multiplexers there are at bit 12 - v of choices");
        SignalEngine x = lays(SMALL, 22);
        int[] due = {2, 2, 2, 2, 2, 2, 2, 2, 2, 1, 1, 1, 1};
        for (int v = 0; v <= 12; v++) {
            CHECK.equal("level(" + v + ")", x.level(v), due[v]);
        }
        CHECK.about("promise 25: 0 when v is not 0 .. 12");
        CHECK.equal("level(-1)", x.level(-1), 0);
        CHECK.equal("level(13)", x.level(13), 0);
        for (int v : FAR) {
            CHECK.equal("level(" + v + ")", x.level(v), 0);
        }
        CHECK.about("promise 25: 0 when it is not laid out");
        SignalEngine y = CHECK.explores(SMALL, 2);
        for (int v = -1; v <= 13; v++) {
            CHECK.equal("level(" + v + ")", y.level(v), 0);
        }
    }

    private static void sizes() {
        CHECK.about("promise 26: how many multiplexers function i has");
        SignalEngine x = lays(SMALL, 22);
        int[] due = {0, 13, 13, 12};
        for (int i = 0; i < due.length; i++) {
            CHECK.equal("size(" + i + ")", x.size(i), due[i]);
            CHECK.equal("size(" + i + ") again", x.size(i), due[i]);
        }
        CHECK.about("promise 26: NONE when there is no such one");
        CHECK.none("size(-1)", x.size(-1));
        CHECK.none("size(4)", x.size(4));
        for (int i : FAR) {
            CHECK.none("size(" + i + ")", x.size(i));
        }
        CHECK.about("promise 26: NONE when it is not laid out");
        SignalEngine y = CHECK.explores(SMALL, 2);
        for (int i = -1; i <= 4; i++) {
            CHECK.none("size(" + i + ")", y.size(i));
        }
    }

    private static void sharing() {
        CHECK.about("terms, net: a function has its multiplexer once, however often it comes up");
        SignalEngine x = lays("out p,q;emit p;emit q", 13);
        for (int i = 0; i < 3; i++) {
            CHECK.equal("size(" + i + ")", x.size(i), 13);
        }
        SignalEngine y = lays("pause", 15);
        CHECK.equal("size(0)", y.size(0), 13);
        CHECK.equal("size(1)", y.size(1), 13);
        CHECK.equal("level(1), bits 11 of both", y.level(1), 2);
        CHECK.equal("level(2), one for both", y.level(2), 1);
    }

    private static void highestBit() {
        CHECK.about("terms, net: a multiplexer at the highest bit on which it depends, none where it does not");
        SignalEngine x = lays("in a,b,c,d;" + Texts.row("pause", "||", 8), 18);
        int[] due = {2, 2, 2, 2, 2, 2, 2, 2, 2, 0, 0, 0, 0};
        for (int v = 0; v <= 12; v++) {
            CHECK.equal("level(" + v + ")", x.level(v), due[v]);
        }
        for (int i = 0; i < 9; i++) {
            CHECK.equal("size(" + i + ")", x.size(i), 9);
        }
        CHECK.none("size(9)", x.size(9));
        SignalEngine y = lays("in a,b,c,d;out o;present b then emit o end", 19);
        CHECK.equal("size(0): first, no pauses, b", y.size(0), 10);
        CHECK.equal("size(1): first, no pauses", y.size(1), 9);
        CHECK.equal("level(9): a", y.level(9), 0);
        CHECK.equal("level(10): b", y.level(10), 1);
        CHECK.equal("level(11): c", y.level(11), 0);
    }
}

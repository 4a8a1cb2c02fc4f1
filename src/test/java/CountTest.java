/** Promise 27: count. */
final class CountTest {
    private static final Check CHECK = new Check("CountTest");

    public static void main(String[] args) {
        wrongNumbers();
        ofTheProgram();
        ofTheRun();
        ofStates();
        withoutProgram();
        CHECK.finish();
    }

    private static void wrongNumbers() {
        SignalEngine x = new SignalEngine();
        SignalEngine y = CHECK.reads("pause");
        int[] wrong = {-1, 16, 17, Integer.MIN_VALUE, Integer.MAX_VALUE};
        for (int what : wrong) {
            CHECK.equal("count(" + what + ") without a program", x.count(what), -1);
            CHECK.equal("count(" + what + ")", y.count(what), -1);
        }
    }

    private static void counts(SignalEngine x, int from, int... due) {
        for (int i = 0; i < due.length; i++) {
            CHECK.equal("count(" + (from + i) + ")", x.count(from + i), due[i]);
        }
    }

    private static void ofTheProgram() {
        counts(CHECK.reads("nothing"), 0, 1, 0, 0, 0, 0, 0, 1, 0, 1, 0, 0, 1, 0, 0, 0, 0);
        counts(CHECK.reads("in a,b;out c;signal d,e in trap T in abort pause when a or b end;exit T end end"), 0,
                17, 6, 2, 1, 2, 2, 27, 2, 2);
        counts(CHECK.reads("in a;present a then pause end"), 0, 3, 1, 1, 0, 0, 1, 3, 0, 3);
        counts(CHECK.reads("trap T in trap U in exit T end end"), 0, 3, 0, 0, 0, 0, 0, 3, 2, 1);
    }

    private static void ofTheRun() {
        SignalEngine x = CHECK.reads("in a;out p;pause||pause;present a then present p else emit p end end");
        counts(x, 10, 0, 1, 0);
        x.instant(0);
        counts(x, 10, 1, 1, 2);
        x.instant(1);
        counts(x, 10, 1, 1, 2);
        Check.feed(x, "12345");
        counts(x, 9, 5, 1, 1, 2);
        x.instant(0);
        counts(x, 10, 2, 2, 0);
        x.restart();
        counts(x, 9, 5, 0, 1, 0);
    }

    private static void ofStates() {
        SignalEngine x = CHECK.reads("in a;out p;pause;present a then present p else emit p end end");
        counts(x, 13, 0, 0, 0);
        x.explore();
        counts(x, 13, 2, 1, 0);
        int multiplexers = x.lay();
        counts(x, 13, 2, 1, multiplexers);
        x.instant(0);
        x.go(1);
        counts(x, 10, 0, 1, 1, 2, 1, multiplexers);
    }

    private static void withoutProgram() {
        SignalEngine x = CHECK.reads("in a;out p;emit p;pause");
        x.explore();
        x.lay();
        x.instant(0);
        Check.feed(x, "end");
        CHECK.equal("read() with a fault", x.read(), 9);
        Check.feed(x, "more");
        counts(x, 0, 0, 0, 0, 0, 0, 0, 0, 0, 0, 4, 0, 0, 0, 0, 0, 0);
    }
}

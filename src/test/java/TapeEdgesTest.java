/** The edges of promises 1 to 4 and of the tape: a new object, feed, end, read. */
final class TapeEdgesTest {
    private static final Check CHECK = new Check("TapeEdgesTest");
    private static final int LINES = 0x0a0a0a0a;

    public static void main(String[] args) {
        newObject();
        nothingWithoutProgram();
        orderOfBytes();
        signsOfBytes();
        lastThatFits();
        firstThatDoesNotFit();
        fullTape();
        refusedFeedIsNone();
        everyByteOfTheTapeCounts();
        everyLengthOfTheEnd();
        endOutOfRange();
        endWithNothingFed();
        endAfterReading();
        endOfTheLastTwentyAlone();
        readOfAnEmptyTape();
        tapeIsEmptyThen();
        programFromItsStart();
        faultLeavesNoProgram();
        exploredAndNetAreGone();
        CHECK.finish();
    }

    /** Twenty bytes that end twenty lines. */
    private static int feedLines(SignalEngine x) {
        return x.feed(LINES, LINES, LINES, LINES, LINES);
    }

    /** A tape of 32760 bytes, the longest that feed() alone makes. */
    private static SignalEngine nearlyFull() {
        SignalEngine x = new SignalEngine();
        for (int i = 0; i < 1638; i++) {
            feedLines(x);
        }
        CHECK.equal("length", x.count(9), 32760);
        return x;
    }

    private static void newObject() {
        CHECK.about("promise 1: an empty tape, no program");
        SignalEngine x = new SignalEngine();
        CHECK.equal("count(9)", x.count(9), 0);
        CHECK.equal("count(11)", x.count(11), 0);
        CHECK.none("end(0)", x.end(0));
        CHECK.none("end(20)", x.end(20));
        SignalEngine other = CHECK.explores("out o;emit o;pause", 2);
        other.instant(0);
        other.lay();
        feedLines(other);
        SignalEngine y = new SignalEngine();
        CHECK.holds("objects have nothing in common", Picture.of(x).equals(Picture.of(y)));
        CHECK.equal("read()", x.read(), 1 + 8);
    }

    private static void nothingWithoutProgram() {
        SignalEngine fresh = new SignalEngine();
        SignalEngine faulty = new SignalEngine();
        faulty.read();
        for (SignalEngine x : new SignalEngine[] {fresh, faulty}) {
            CHECK.about("promises 5 to 27: what there is without a program");
            for (int what = -1; what <= 7; what++) {
                CHECK.none("node(0, " + what + ")", x.node(0, what));
                CHECK.none("piece(0, " + what + ")", x.piece(0, what));
                CHECK.none("letter(0, " + what + ")", x.letter(0, what));
                CHECK.none("doubt(" + what + ")", x.doubt(what));
                CHECK.none("ever(" + what + ")", x.ever(what));
                CHECK.none("together(0, " + what + ")", x.together(0, what));
                CHECK.none("size(" + what + ")", x.size(what));
                CHECK.none("path(256, " + what + ")", x.path(256, what));
                CHECK.equal("status(" + what + ")", x.status(what), 0);
                CHECK.holds("selected(" + what + ")", !x.selected(what));
                CHECK.equal("level(" + what + ")", x.level(what), 0);
            }
            CHECK.none("distance(256)", x.distance(256));
            CHECK.none("alike(256)", x.alike(256));
            throwsWithoutProgram(x);
        }
    }

    private static void throwsWithoutProgram(SignalEngine x) {
        CHECK.about("promises 8, 9, 12, 13, 16, 17, 21, 23, 24: IllegalStateException without a program");
        CHECK.refusesState("restart()", x, x::restart);
        CHECK.refusesState("instant(0)", x, () -> x.instant(0));
        CHECK.refusesState("instant(1), a bit of no input", x, () -> x.instant(1));
        CHECK.refusesState("go(256)", x, () -> x.go(256));
        CHECK.refusesState("go(257), no state", x, () -> x.go(257));
        CHECK.refusesState("explore()", x, x::explore);
        CHECK.refusesState("next(256, 0)", x, () -> x.next(256, 0));
        CHECK.refusesState("next(257, 0)", x, () -> x.next(257, 0));
        CHECK.refusesState("shows(256, 0)", x, () -> x.shows(256, 0));
        CHECK.refusesState("shows(257, 0)", x, () -> x.shows(257, 0));
        CHECK.refusesState("classes()", x, x::classes);
        CHECK.refusesState("lay()", x, x::lay);
        CHECK.refusesState("pass(0)", x, () -> x.pass(0));
        CHECK.refusesState("pass(8192), no choice", x, () -> x.pass(8192));
    }

    /** A byte that no text has, among ends of lines, tells by its fault at which place it stands. */
    private static void orderOfBytes() {
        CHECK.about("promise 2: the four bytes of a, b, c, d and e, the highest first");
        for (int place = 0; place < 20; place++) {
            int[] words = {LINES, LINES, LINES, LINES, LINES};
            int shift = 24 - 8 * (place % 4);
            words[place / 4] = (LINES & ~(255 << shift)) | (1 << shift);
            SignalEngine x = new SignalEngine();
            CHECK.equal("feed()", x.feed(words[0], words[1], words[2], words[3], words[4]), 20);
            CHECK.equal("read() of the wrong byte " + place, x.read(), 1 + 8 * (place + 1));
        }
    }

    private static void signsOfBytes() {
        CHECK.about("promise 2: bytes, whatever the sign of the number");
        int[] wrong = {Integer.MIN_VALUE, Integer.MAX_VALUE, -1, 0, 0x80808080};
        for (int word : wrong) {
            SignalEngine x = new SignalEngine();
            feedLines(x);
            CHECK.equal("feed(" + word + ")", x.feed(LINES, word, LINES, LINES, LINES), 40);
            CHECK.equal("read(): the first wrong byte", x.read(), 1 + 8 * 25);
        }
    }

    private static void lastThatFits() {
        CHECK.about("promise 2: not longer than 32768");
        SignalEngine x = nearlyFull();
        CHECK.equal("end(8)", x.end(8), 32748);
        CHECK.equal("feed() to just 32768", feedLines(x), 32768);
        CHECK.equal("count(9)", x.count(9), 32768);
    }

    private static void firstThatDoesNotFit() {
        CHECK.about("promise 2: NONE, changing nothing, when it would be longer than 32768");
        SignalEngine x = nearlyFull();
        CHECK.equal("end(9)", x.end(9), 32749);
        CHECK.none("feed() to 32769", feedLines(x));
        CHECK.equal("count(9)", x.count(9), 32749);
        SignalEngine y = nearlyFull();
        CHECK.none("feed() to 32780", feedLines(y));
        CHECK.equal("count(9)", y.count(9), 32760);
    }

    private static void fullTape() {
        CHECK.about("promise 2: a full tape takes no more, until it is read or ended");
        SignalEngine x = nearlyFull();
        x.end(8);
        feedLines(x);
        CHECK.unchanged("feed() on a full tape", x, () -> CHECK.none("feed()", feedLines(x)));
        CHECK.equal("end(0): the twenty that fitted go", x.end(0), 32748);
        CHECK.equal("feed() fits again", feedLines(x), 32768);
        CHECK.equal("read() to the end", x.read(), 1 + 8 * 32769);
        CHECK.equal("feed() on the empty tape", feedLines(x), 20);
    }

    private static void refusedFeedIsNone() {
        CHECK.about("promise 3: a feed() that answers NONE has fed nothing");
        SignalEngine x = nearlyFull();
        CHECK.equal("end(20)", x.end(20), 32760);
        CHECK.none("feed()", feedLines(x));
        CHECK.none("end(20)", x.end(20));
        CHECK.none("end(0)", x.end(0));
        CHECK.equal("count(9)", x.count(9), 32760);
    }

    private static void everyByteOfTheTapeCounts() {
        CHECK.about("terms: the tape holds up to 32768 bytes");
        SignalEngine x = nearlyFull();
        x.end(8);
        x.feed(LINES, LINES, LINES, LINES, LINES & ~255);
        CHECK.none("feed() of other bytes", x.feed(0, 0, 0, 0, 0));
        CHECK.equal("read(): the last byte is wrong", x.read(), 1 + 8 * 32768);
        SignalEngine y = nearlyFull();
        y.end(8);
        y.feed(LINES, LINES, LINES, 0x0a0a0a70, 0x61757365);
        CHECK.equal("read(): the last five are pause", y.read(), 0);
        CHECK.equal("its line", y.node(0, 5), 32764);
    }

    private static void everyLengthOfTheEnd() {
        CHECK.about("promise 3: of the twenty bytes that came last only the first n count");
        for (int n = 0; n <= 20; n++) {
            SignalEngine x = new SignalEngine();
            feedLines(x);
            x.feed(LINES, LINES, LINES, LINES, LINES);
            CHECK.equal("end(" + n + ")", x.end(n), 20 + n);
            CHECK.equal("count(9)", x.count(9), 20 + n);
            CHECK.equal("read(): so many lines", x.read(), 1 + 8 * (21 + n));
            SignalEngine y = new SignalEngine();
            y.feed(0x20202020, 0x20202020, 0x20202020, 0x20202020, 0x20202020);
            y.end(n);
            CHECK.equal("feed() behind end(" + n + ")", feedLines(y), n + 20);
            CHECK.equal("read(): the lines behind it", y.read(), 1 + 8 * 21);
        }
    }

    private static void endOutOfRange() {
        CHECK.about("promise 3: NONE, changing nothing, when n is not 0 .. 20");
        int[] wrong = {-1, 21, -20, 40, Integer.MIN_VALUE, Integer.MAX_VALUE};
        for (int n : wrong) {
            SignalEngine x = new SignalEngine();
            feedLines(x);
            feedLines(x);
            CHECK.unchanged("end(" + n + ")", x, () -> CHECK.none("end(" + n + ")", x.end(n)));
            CHECK.equal("end(20) then", x.end(20), 40);
        }
        SignalEngine y = new SignalEngine();
        feedLines(y);
        CHECK.none("end(21)", y.end(21));
        CHECK.equal("end(0) then", y.end(0), 0);
        CHECK.none("end(-1) with nothing fed", y.end(-1));
    }

    private static void endWithNothingFed() {
        CHECK.about("promise 3: NONE, changing nothing, when nothing was fed since the latest end()");
        SignalEngine x = new SignalEngine();
        CHECK.none("end(0), never fed", x.end(0));
        CHECK.none("end(20), never fed", x.end(20));
        feedLines(x);
        feedLines(x);
        CHECK.equal("end(7)", x.end(7), 27);
        for (int n = 0; n <= 20; n++) {
            CHECK.none("end(" + n + ") again", x.end(n));
        }
        CHECK.equal("count(9)", x.count(9), 27);
        CHECK.equal("feed()", feedLines(x), 47);
        CHECK.equal("end(20)", x.end(20), 47);
        CHECK.none("end(20) again", x.end(20));
        CHECK.equal("feed()", feedLines(x), 67);
        CHECK.equal("end(0)", x.end(0), 47);
        CHECK.none("end(0) again", x.end(0));
    }

    private static void endAfterReading() {
        CHECK.about("promise 3: NONE, changing nothing, when nothing was fed since the tape was read");
        SignalEngine x = new SignalEngine();
        feedLines(x);
        CHECK.equal("read() with a fault", x.read(), 1 + 8 * 21);
        CHECK.none("end(20)", x.end(20));
        CHECK.none("end(0)", x.end(0));
        CHECK.equal("count(9)", x.count(9), 0);
        x.feed(0x70617573, 0x65202020, 0x20202020, 0x20202020, 0x20202020);
        CHECK.equal("read() without one", x.read(), 0);
        CHECK.unchanged("end(0)", x, () -> CHECK.none("end(0)", x.end(0)));
        feedLines(x);
        CHECK.equal("end(3) behind feed()", x.end(3), 3);
        CHECK.equal("read()", x.read(), 1 + 8 * 4);
        CHECK.none("end(3)", x.end(3));
        CHECK.equal("read() of nothing", x.read(), 9);
        CHECK.none("end(3) again", x.end(3));
    }

    private static void endOfTheLastTwentyAlone() {
        CHECK.about("promise 3: the twenty that came last, of all that were fed since");
        SignalEngine x = new SignalEngine();
        feedLines(x);
        feedLines(x);
        x.feed(0, 0, 0, 0, 0);
        CHECK.equal("end(0)", x.end(0), 40);
        CHECK.none("end(0): the others stay", x.end(0));
        CHECK.equal("read()", x.read(), 1 + 8 * 41);
    }

    private static void readOfAnEmptyTape() {
        CHECK.about("promise 4: an empty tape is a text that ends in line 1");
        SignalEngine x = new SignalEngine();
        CHECK.equal("read()", x.read(), 1 + 8);
        CHECK.equal("count(11)", x.count(11), 0);
        feedLines(x);
        x.end(0);
        CHECK.equal("read() of what was ended to nothing", x.read(), 1 + 8);
        SignalEngine y = CHECK.reads("pause");
        CHECK.equal("read() again", y.read(), 1 + 8);
        CHECK.equal("the program is gone", y.count(11), 0);
    }

    private static void tapeIsEmptyThen() {
        CHECK.about("promise 4: the tape is empty then");
        SignalEngine x = new SignalEngine();
        Check.feed(x, "pause;nothing||halt;loop pause end");
        CHECK.equal("count(9)", x.count(9), 34);
        CHECK.equal("read()", x.read(), 0);
        CHECK.equal("count(9)", x.count(9), 0);
        Check.feed(x, ";;");
        CHECK.equal("count(9)", x.count(9), 2);
        CHECK.equal("read() with a fault", x.read(), 9);
        CHECK.equal("count(9)", x.count(9), 0);
        Check.feed(x, "nothing");
        CHECK.equal("read(): nothing of the earlier text is left", x.read(), 0);
        CHECK.equal("nodes", x.count(0), 1);
    }

    private static void programFromItsStart() {
        CHECK.about("promise 4: 0, and the program goes from its start");
        String text = "in i;out o;emit o;pause";
        SignalEngine x = CHECK.reads(text);
        String start = Picture.of(x);
        x.instant(1);
        Check.feed(x, text);
        CHECK.equal("read() while it goes", x.read(), 0);
        CHECK.holds("all is as at the start", Picture.of(x).equals(start));
        x.instant(1);
        x.instant(1);
        CHECK.equal("it has ended", x.count(11), 2);
        Check.feed(x, text);
        CHECK.equal("read() after the end", x.read(), 0);
        CHECK.holds("all is as at the start again", Picture.of(x).equals(start));
        CHECK.equal("instant(0)", x.instant(0), 0);
    }

    private static void faultLeavesNoProgram() {
        CHECK.about("promise 4: the fault + 8 * its line, and there is no program");
        String none = Picture.of(new SignalEngine());
        String[] texts = {"\n;", "\nemit o", "out o,o;nothing", "\n\nloop nothing end", Texts.bracketed("pause", 24),
            Texts.row("pause", ";", 201)};
        int[] faults = {1 + 16, 2 + 16, 3 + 8, 4 + 24, 5 + 8, 6};
        for (int i = 0; i < texts.length; i++) {
            SignalEngine x = CHECK.reads("in i;out o;emit o;pause");
            x.instant(1);
            Check.feed(x, texts[i]);
            CHECK.equal("read()", x.read(), faults[i]);
            CHECK.holds("all is as in a new object", Picture.of(x).equals(none));
        }
    }

    private static void exploredAndNetAreGone() {
        CHECK.about("promise 4: what was explored, and a net, are gone in any case");
        String text = "in i;out o;emit o;pause";
        String fresh = Picture.of(CHECK.reads(text));
        SignalEngine x = CHECK.explores(text, 2);
        x.lay();
        Check.feed(x, text);
        CHECK.equal("while the tape is fed: count(13)", x.count(13), 2);
        CHECK.equal("while the tape is fed: pass(4096)", x.pass(4096), 3);
        CHECK.equal("read() of the same text", x.read(), 0);
        CHECK.holds("nothing is explored or laid out", Picture.of(x).equals(fresh));
        CHECK.refusesState("classes()", x, x::classes);
        CHECK.refusesState("lay()", x, x::lay);
        CHECK.refusesState("pass(4096)", x, () -> x.pass(4096));
        CHECK.refusesState("go(256)", x, () -> x.go(256));
        x.explore();
        CHECK.equal("explored anew, not laid out: size(0)", x.size(0), -1);
        x.lay();
        Check.feed(x, "emit");
        CHECK.equal("read() with a fault", x.read(), 9);
        CHECK.holds("nothing is left", Picture.of(x).equals(Picture.of(new SignalEngine())));
        Check.feed(x, text);
        CHECK.equal("read() behind the fault", x.read(), 0);
        CHECK.holds("still nothing is explored", Picture.of(x).equals(fresh));
    }
}

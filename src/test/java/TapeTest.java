import java.nio.charset.StandardCharsets;

/** Promises 1 to 3 and what read() does to the tape: a new object, feed, end. */
final class TapeTest {
    private static final Check CHECK = new Check("TapeTest");

    public static void main(String[] args) {
        newObject();
        feeding();
        bytesInOrder();
        fullTape();
        ending();
        endingAndReading();
        CHECK.finish();
    }

    private static void newObject() {
        SignalEngine x = new SignalEngine();
        for (int what = 0; what <= 15; what++) {
            CHECK.equal("count(" + what + ") of a new object", x.count(what), 0);
        }
        CHECK.equal("NONE", SignalEngine.NONE, -1);
        CHECK.equal("node(0, 0) of a new object", x.node(0, 0), -1);
        CHECK.equal("piece(0, 0) of a new object", x.piece(0, 0), -1);
        CHECK.equal("letter(0, 0) of a new object", x.letter(0, 0), -1);
        CHECK.equal("status(0) of a new object", x.status(0), 0);
        CHECK.holds("selected(0) of a new object", !x.selected(0));
        CHECK.refusesState("restart() of a new object", x::restart);
        CHECK.refusesState("instant(0) of a new object", () -> x.instant(0));
        CHECK.refusesState("instant(-1) of a new object", () -> x.instant(-1));
        CHECK.equal("end(0) of a new object", x.end(0), -1);
        CHECK.equal("read() of a new object", x.read(), 9);
    }

    private static void feeding() {
        SignalEngine x = new SignalEngine();
        for (int i = 1; i <= 12; i++) {
            CHECK.equal("feed " + i, x.feed(0, 0, 0, 0, 0), 20 * i);
            CHECK.equal("count(9)", x.count(9), 20 * i);
        }
    }

    private static void bytesInOrder() {
        SignalEngine x = new SignalEngine();
        String text = "in abcdefg,h;nothing";
        CHECK.equal("length", text.length(), 20);
        x.feed(0x696e2061, 0x62636465, 0x66672c68, 0x3b6e6f74, 0x68696e67);
        CHECK.equal("read", x.read(), 0);
        byte[] name = "abcdefg".getBytes(StandardCharsets.ISO_8859_1);
        for (int i = 0; i < name.length; i++) {
            CHECK.equal("letter(0, " + i + ")", x.letter(0, i), name[i]);
        }
        CHECK.equal("letter(1, 0)", x.letter(1, 0), 'h');
        SignalEngine y = new SignalEngine();
        y.feed(0x80202020, 0x20202020, 0x20202020, 0x20202020, 0x20202020);
        CHECK.equal("a first byte of 128", y.read(), 9);
        SignalEngine z = new SignalEngine();
        z.feed(0x70617573, 0x650a0a0a, 0x20202020, 0x20202020, 0x202020ff);
        CHECK.equal("a last byte of 255 in line 4", z.read(), 1 + 8 * 4);
    }

    private static void fullTape() {
        SignalEngine x = new SignalEngine();
        for (int i = 1; i <= 1638; i++) {
            x.feed(0x20202020, 0x20202020, 0x20202020, 0x20202020, 0x20202020);
        }
        CHECK.equal("length of 1638 feeds", x.count(9), 32760);
        CHECK.equal("one feed too many", x.feed(0, 0, 0, 0, 0), -1);
        CHECK.equal("length after it", x.count(9), 32760);
        CHECK.equal("end(8)", x.end(8), 32748);
        CHECK.equal("now twenty more fit", x.feed(0x70617573, 0x65202020, 0x20202020, 0x20202020, 0x20202020), 32768);
        CHECK.equal("but not twenty again", x.feed(0, 0, 0, 0, 0), -1);
        CHECK.equal("a full tape is read", x.read(), 0);
        CHECK.equal("nodes", x.count(0), 1);
        CHECK.equal("empty then", x.count(9), 0);
    }

    private static void ending() {
        SignalEngine x = new SignalEngine();
        x.feed(0, 0, 0, 0, 0);
        CHECK.equal("end(-1)", x.end(-1), -1);
        CHECK.equal("end(21)", x.end(21), -1);
        CHECK.equal("length after these", x.count(9), 20);
        CHECK.equal("end(20)", x.end(20), 20);
        CHECK.equal("end(20) again", x.end(20), -1);
        CHECK.equal("end(0) again", x.end(0), -1);
        x.feed(0, 0, 0, 0, 0);
        x.feed(0, 0, 0, 0, 0);
        CHECK.equal("end(0)", x.end(0), 40);
        CHECK.equal("end(3) behind it", x.end(3), -1);
        x.feed(0, 0, 0, 0, 0);
        CHECK.equal("end(7)", x.end(7), 47);
        CHECK.equal("count(9)", x.count(9), 47);
    }

    private static void endingAndReading() {
        SignalEngine x = new SignalEngine();
        x.feed(0x70617573, 0x65414141, 0x41414141, 0x41414141, 0x41414141);
        x.end(5);
        CHECK.equal("pause and no more is read", x.read(), 0);
        CHECK.equal("its kind", x.node(0, 0), 1);
        CHECK.equal("count(9) after read()", x.count(9), 0);
        CHECK.equal("end() after read()", x.end(5), -1);
        x.feed(0x70617573, 0x65202020, 0x20202020, 0x20202020, 0x20202020);
        CHECK.equal("read() right behind feed()", x.read(), 0);
        CHECK.equal("end() behind it", x.end(5), -1);
        CHECK.equal("read() of an empty tape", x.read(), 9);
    }
}

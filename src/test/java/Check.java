import java.nio.charset.StandardCharsets;

/** What all tests share: comparing answers, counting wrong ones, and feeding texts. */
final class Check {
    private static final int PRINTED = 100;

    private final String name;
    private int asked;
    private int wrong;

    Check(String name) {
        this.name = name;
    }

    void equal(String what, long answer, long due) {
        asked++;
        if (answer != due) {
            wrong++;
        }
        if (answer != due && wrong <= PRINTED) {
            System.out.println(name + ": " + what + " answers " + answer + ", due is " + due);
        }
    }

    void holds(String what, boolean answer) {
        equal(what, answer ? 1 : 0, 1);
    }

    void refusesState(String what, Runnable call) {
        equal(what + " (1: IllegalStateException)", thrownBy(call), 1);
    }

    void refusesArgument(String what, Runnable call) {
        equal(what + " (2: IllegalArgumentException)", thrownBy(call), 2);
    }

    private static int thrownBy(Runnable call) {
        try {
            call.run();
        } catch (RuntimeException thrown) {
            if (thrown.getClass() == IllegalStateException.class) {
                return 1;
            }
            return thrown.getClass() == IllegalArgumentException.class ? 2 : 3;
        }
        return 0;
    }

    /** Ends the test with exit code 1 if an answer was wrong, or if nothing was asked at all. */
    void finish() {
        System.out.println(name + ": " + asked + " answers, " + wrong + " wrong");
        if (wrong > 0 || asked == 0) {
            System.exit(1);
        }
    }

    static void feed(SignalEngine engine, String text) {
        byte[] bytes = text.getBytes(StandardCharsets.ISO_8859_1);
        for (int at = 0; at < bytes.length; at += 20) {
            engine.feed(word(bytes, at), word(bytes, at + 4), word(bytes, at + 8),
                    word(bytes, at + 12), word(bytes, at + 16));
            if (at + 20 > bytes.length) {
                engine.end(bytes.length - at);
            }
        }
    }

    private static int word(byte[] bytes, int from) {
        int word = 0;
        for (int i = from; i < from + 4; i++) {
            word = (word << 8) | (i < bytes.length ? bytes[i] & 255 : 0);
        }
        return word;
    }

    static int fault(String text) {
        SignalEngine engine = new SignalEngine();
        feed(engine, text);
        return engine.read();
    }

    /** An engine that has read a text; the answer of read() is due to be 0. */
    SignalEngine reads(String text) {
        SignalEngine engine = new SignalEngine();
        feed(engine, text);
        equal("read() of " + text, engine.read(), 0);
        return engine;
    }
}

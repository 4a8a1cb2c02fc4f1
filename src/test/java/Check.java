import java.nio.charset.StandardCharsets;

/** What all tests share: comparing answers, counting wrong ones, and feeding texts. */
final class Check {
    private static final int PRINTED = 100;

    private final String name;
    private String sentence = "";
    private int asked;
    private int wrong;

    Check(String name) {
        this.name = name;
    }

    /** Says to which promise and which sentence of it the answers belong that are asked from here on. */
    void about(String promiseAndSentence) {
        sentence = promiseAndSentence + ": ";
    }

    void equal(String what, long answer, long due) {
        asked++;
        if (answer != due) {
            wrong++;
        }
        if (answer != due && wrong <= PRINTED) {
            System.out.println(name + ": " + sentence + what + " answers " + answer + ", due is " + due);
        }
    }

    void none(String what, long answer) {
        equal(what, answer, SignalEngine.NONE);
    }

    void holds(String what, boolean answer) {
        equal(what, answer ? 1 : 0, 1);
    }

    void refusesState(String what, Runnable call) {
        equal(what + " (1: IllegalStateException)", thrownBy(call), 1);
    }

    void refusesArgument(String what, Runnable call) {
        equal(what + " (2: IllegalArgumentException)", thrownBy(call), 2);
    }

    /** As above, and all that the engine answers stays as it was. */
    void refusesState(String what, SignalEngine engine, Runnable call) {
        unchanged(what, engine, () -> refusesState(what, call));
    }

    void refusesArgument(String what, SignalEngine engine, Runnable call) {
        unchanged(what, engine, () -> refusesArgument(what, call));
    }

    void unchanged(String what, SignalEngine engine, Runnable call) {
        String before = Picture.of(engine);
        call.run();
        holds(what + " changes nothing", Picture.of(engine).equals(before));
    }

    private static int thrownBy(Runnable call) {
        try {
            call.run();
        } catch (RuntimeException thrown) {
            if (thrown.getClass() == IllegalStateException.class) {
                return 1;
            }
            return thrown.getClass() == IllegalArgumentException.class ? 2 : 3;
        }
        return 0;
    }

    /** Ends the test with exit code 1 if an answer was wrong, or if nothing was asked at all. */
    void finish() {
        System.out.println(name + ": " + asked + " answers, " + wrong + " wrong");
        if (wrong > 0 || asked == 0) {
            System.exit(1);
        }
    }

    static void feed(SignalEngine engine, String text) {
        byte[] bytes = text.getBytes(StandardCharsets.ISO_8859_1);
        for (int at = 0; at < bytes.length; at += 20) {
            engine.feed(word(bytes, at), word(bytes, at + 4), word(bytes, at + 8),
                    word(bytes, at + 12), word(bytes, at + 16));
            if (at + 20 > bytes.length) {
                engine.end(bytes.length - at);
            }
        }
    }

    private static int word(byte[] bytes, int from) {
        int word = 0;
        for (int i = from; i < from + 4; i++) {
            word = (word << 8) | (i < bytes.length ? bytes[i] & 255 : 0);
        }
        return word;
    }

    static int fault(String text) {
        SignalEngine engine = new SignalEngine();
        feed(engine, text);
        return engine.read();
    }

    /** The fault is due in that line when a new engine reads the text; 0, 0 for none. */
    void fault(String text, int kind, int line) {
        equal("read() of " + shortened(text), fault(text), kind + 8L * line);
    }

    void good(String text) {
        fault(text, 0, 0);
    }

    private static String shortened(String text) {
        String shown = text.length() <= 300 ? text : text.substring(0, 300) + " ..";
        return shown.replace("\n", "\\n");
    }

    /** An engine that has read a text; the answer of read() is due to be 0. */
    SignalEngine reads(String text) {
        SignalEngine engine = new SignalEngine();
        feed(engine, text);
        equal("read() of " + shortened(text), engine.read(), 0);
        return engine;
    }

    /** An engine that has read and explored a text with so many reachable states. */
    SignalEngine explores(String text, int states) {
        SignalEngine engine = reads(text);
        equal("explore() of " + shortened(text), engine.explore(), states);
        return engine;
    }
}

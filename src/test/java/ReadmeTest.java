import java.io.IOException;
import java.lang.reflect.Method;
import java.lang.reflect.Modifier;
import java.nio.charset.StandardCharsets;
import java.nio.file.Files;
import java.nio.file.Path;

/** README.md: its example answers what it says there, and it tells of every part of the face. */
final class ReadmeTest {
    private static final Check CHECK = new Check("ReadmeTest");
    private static String readme;
    private static int at;

    public static void main(String[] args) throws IOException {
        readme = Files.readString(Path.of("README.md"), StandardCharsets.UTF_8);
        everyCallIsTold();
        example();
        CHECK.finish();
    }

    private static void everyCallIsTold() {
        CHECK.about("README.md tells what each part of the face is for");
        for (Method method : SignalEngine.class.getDeclaredMethods()) {
            if (Modifier.isPublic(method.getModifiers())) {
                CHECK.holds(method.getName(), readme.contains("| `" + method.getName() + "("));
            }
        }
        CHECK.holds("the constructor", readme.contains("| `SignalEngine()` |"));
        CHECK.holds("NONE", readme.contains("`NONE`"));
        CHECK.holds("the command of the tests", readme.contains("\n.ci/run\n"));
    }

    private static void example() {
        CHECK.about("README.md, example");
        SignalEngine engine = new SignalEngine();
        at = readme.indexOf("SignalEngine engine = new SignalEngine();");
        String text = "in A, B, R;\nout O;\nloop\n  (await A || await B); emit O\neach R end";
        String call = "feedText(engine, \"" + text.replace("\n", "\\n") + "\");";
        CHECK.holds("it has the text", readme.indexOf(call, at) > 0);
        feedText(engine, text);
        says("count(9)", engine.count(9));
        says("read()", engine.read());
        tree(engine);
        instants(engine);
        states(engine);
        net(engine);
    }

    /** As README.md has it. */
    private static void feedText(SignalEngine engine, String text) {
        byte[] bytes = text.getBytes(StandardCharsets.ISO_8859_1);
        for (int at = 0; at < bytes.length; at += 20) {
            int[] words = new int[5];
            for (int i = 0; i < 20 && at + i < bytes.length; i++) {
                words[i / 4] |= (bytes[at + i] & 255) << (24 - 8 * (i % 4));
            }
            engine.feed(words[0], words[1], words[2], words[3], words[4]);
            if (at + 20 > bytes.length) {
                engine.end(bytes.length - at);
            }
        }
    }

    private static void tree(SignalEngine engine) {
        says("count(0)", engine.count(0));
        says("node(0, 0)", engine.node(0, 0));
        says("node(0, 5)", engine.node(0, 5));
        says("node(4, 3)", engine.node(4, 3));
        says("piece(0, 1)", engine.piece(0, 1));
        says("letter(2, 0)", engine.letter(2, 0));
    }

    private static void instants(SignalEngine engine) {
        says("instant(0)", engine.instant(0));
        says("instant(1)", engine.instant(1));
        says("instant(2)", engine.instant(2));
        says("status(3)", engine.status(3));
        says("selected(2)", String.valueOf(engine.selected(2)));
        says("restart()", engine.restart());
    }

    private static void states(SignalEngine engine) {
        says("explore()", engine.explore());
        says("distance(12)", engine.distance(12));
        says("path(12, 0)", engine.path(12, 0));
        says("path(12, 1)", engine.path(12, 1));
        says("next(11, 3)", engine.next(11, 3));
        says("shows(11, 3)", engine.shows(11, 3));
        says("doubt(0)", engine.doubt(0));
        says("ever(0)", engine.ever(0));
        says("together(0, 0)", engine.together(0, 0));
        says("classes()", engine.classes());
        says("alike(12)", engine.alike(12));
        engine.go(12);
        says("instant(4)", engine.instant(4));
    }

    private static void net(SignalEngine engine) {
        says("lay()", engine.lay());
        says("pass(4096)", engine.pass(4096));
        says("level(0)", engine.level(0));
        says("size(0)", engine.size(0));
        says("size(5)", engine.size(5));
        says("count(15)", engine.count(15));
    }

    private static void says(String call, long answer) {
        says(call, String.valueOf(answer));
    }

    /** The next line of the example that has this call says this answer. */
    private static void says(String call, String answer) {
        int found = readme.indexOf("\nengine." + call + ";", at);
        CHECK.holds(call + " comes next in the example", found >= 0);
        if (found >= 0) {
            at = found + 1;
            String line = readme.substring(at, readme.indexOf('\n', at));
            CHECK.holds(line + " (it answers " + answer + ")", line.contains("// " + answer + ":"));
        }
    }
}

import java.util.Arrays;
import java.util.Random;

/** Promise 4: texts with something wrong put in by chance, from fixed seeds, against a second reader. */
final class SpoiledTextsTest {
    private static final Check CHECK = new Check("SpoiledTextsTest");
    private static final String[] SYMBOLS = {";", ",", "(", ")", "||", "|", "a", "T", "x", "7", "_", "%", "\n", "\t",
        "\u0000", "\u007f", "\u00ff", "abcdefghijklmnopqrstuvwxyz12345", "abcdefghijklmnopqrstuvwxyz123456"};

    /** Statements around another one, with E for a test. */
    private static final String[] AROUND = {"(#)", "loop # end", "loop # each E end", "trap T in # end",
        "signal o in # end", "signal l,m in # end", "abort # when E end", "weak abort # when E end",
        "every E do # end", "suspend # when E end", "present E then # end", "present E else # end",
        "pause;#", "#||pause", "#;\nemit o", "nothing||\n#"};
    private static final String[] WITHIN = {"pause", "emit o", "exit T", "emit a", "exit q", "await E", "sustain o",
        "halt", "present E then pause end", "emit ,", "loop emit o end", "signal l,m,l in pause end"};
    private static final String[] TESTS = {"not #", "(#)", "not(#)", "(b and not #)", "# or o", "\n#"};

    private static final int[] FAULTS = new int[8];

    public static void main(String[] args) {
        int from = args.length > 0 ? Integer.parseInt(args[0]) : 0;
        int to = args.length > 1 ? Integer.parseInt(args[1]) : 10000;
        CHECK.about("FAULTS: the first one, token by token");
        for (int seed = from; seed < to; seed++) {
            Random random = new Random(seed);
            String text = seed % 2 == 0 ? new Sketch(seed, 6 + seed % 40, 3, false).text() : deep(random);
            compare(seed, seed % 4 == 1 ? text : spoiled(text, random));
        }
        System.out.println("texts by the kind of their fault " + Arrays.toString(FAULTS));
        CHECK.holds("enough faults of each sort", FAULTS[0] > (to - from) / 50 && FAULTS[1] > (to - from) / 50
                && FAULTS[2] > (to - from) / 50 && FAULTS[3] > (to - from) / 1000 && FAULTS[5] > (to - from) / 50);
        CHECK.finish();
    }

    /** Where the second reader finds nothing, only the faults of the whole tree are left. */
    private static void compare(int seed, String text) {
        int due = SecondReader.fault(text);
        int fault = Check.fault(text);
        FAULTS[due % 8]++;
        boolean ofTree = fault % 8 == 4 || fault == 6;
        CHECK.equal("seed " + seed + " read() of " + text.replace("\n", "\\n"), due == 0 && ofTree ? 0 : fault, due);
    }

    /** Statements, brackets and nots one within the other, about as many as may be. */
    private static String deep(Random random) {
        String text = any(WITHIN, random);
        int levels = random.nextInt(28);
        for (int i = 0; i < levels; i++) {
            text = any(AROUND, random).replace("#", text).replace("E", test(random));
        }
        return "in a,b;out o;" + text.replace("E", test(random));
    }

    private static String test(Random random) {
        String test = "a";
        int levels = random.nextInt(4) > 0 ? random.nextInt(2) : random.nextInt(27);
        for (int i = 0; i < levels; i++) {
            test = any(TESTS, random).replace("#", test);
        }
        return test;
    }

    /** A text with some of its tokens gone, taken twice, or others put in. */
    private static String spoiled(String text, Random random) {
        String spoiled = text;
        int changes = 1 + random.nextInt(3);
        for (int i = 0; i < changes; i++) {
            int from = random.nextInt(spoiled.length() + 1);
            int to = Math.min(spoiled.length(), from + random.nextInt(6));
            String put = switch (random.nextInt(5)) {
                case 0 -> "";
                case 1 -> any(SYMBOLS, random);
                case 2 -> " " + any(Texts.RESERVED, random) + " ";
                case 3 -> spoiled.substring(from, to);
                default -> " " + spoiled.substring(from, to) + any(SYMBOLS, random);
            };
            spoiled = spoiled.substring(0, from) + put + spoiled.substring(random.nextBoolean() ? from : to);
        }
        return spoiled;
    }

    private static String any(String[] of, Random random) {
        return of[random.nextInt(of.length)];
    }
}

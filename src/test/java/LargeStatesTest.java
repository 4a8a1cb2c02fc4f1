import java.util.Random;

/**
 * Promises 13 to 26 with as many states, pauses and inputs as there may be, and nets of many
 * multiplexers: programs that are machines whose next state is told by formulas, which the test
 * works out by itself.
 */
final class LargeStatesTest {
    private static final Check CHECK = new Check("LargeStatesTest");

    public static void main(String[] args) {
        allSetsOfPauses();
        CHECK.about("promises 13 to 26: as a machine of formulas answers");
        int most = 0;
        for (int seed = 0; seed < 40; seed++) {
            most = Math.max(most, formulas(seed));
        }
        CHECK.holds("nets of many multiplexers: " + most, most > 800);
        CHECK.finish();
    }

    /** Eight pauses, each of which ends on inputs of its own: all 255 sets are reachable, and first. */
    private static void allSetsOfPauses() {
        StringBuilder text = new StringBuilder("in a,b,c,d;");
        for (int k = 0; k < 8; k++) {
            text.append(k == 0 ? "" : "||").append("await ");
            for (int bit = 0; bit < 4; bit++) {
                text.append(bit == 0 ? "" : " and ").append((k >> bit & 1) == 1 ? "" : "not ").append("abcd".charAt(bit));
            }
        }
        CHECK.about("promises 13 to 26: as a machine of eight pauses answers");
        SignalEngine x = CHECK.reads(text.toString());
        new SurveyCheck(CHECK, "all sets, ", x, new Survey(new Awaits())).compareAll();
        CHECK.about("promise 13: how many states are reachable, 256 at most");
        CHECK.equal("count(13)", x.count(13), 256);
        CHECK.about("promise 21: no two of them are alike");
        CHECK.equal("classes()", x.classes(), 256);
        CHECK.about("promise 14: the greatest distance");
        CHECK.equal("distance(128)", x.distance(128), 8);
        CHECK.about("promise 15: the path to it");
        for (int i = 1; i < 8; i++) {
            CHECK.equal("path(128, " + i + ")", x.path(128, i), i - 1);
        }
        CHECK.none("path(128, 8)", x.path(128, 8));
        CHECK.about("promise 12: goes to each state");
        for (int state = 1; state <= 256; state++) {
            x.go(state);
            CHECK.equal("count(12) at " + state, x.count(12), state == 256 ? 0 : Integer.bitCount(state));
        }
        CHECK.about("promise 12: the end and the empty set are no states");
        CHECK.refusesArgument("go(0)", () -> x.go(0));
        CHECK.refusesArgument("go(257)", () -> x.go(257));
    }

    /** A machine by formulas of its seed; how many multiplexers it has. */
    private static int formulas(int seed) {
        Formulas machine = new Formulas(new Random(seed));
        SignalEngine x = CHECK.reads(machine.text());
        new SurveyCheck(CHECK, "formulas of seed " + seed + ", ", x, new Survey(machine)).compareAll();
        return x.count(15);
    }

    private static final class Awaits implements Survey.Machine {
        @Override
        public int inputs() {
            return 4;
        }

        @Override
        public int outputs() {
            return 0;
        }

        @Override
        public int pauses() {
            return 8;
        }

        @Override
        public int next(int state, int inputs) {
            int then = state == Survey.FIRST ? 255 : inputs < 8 ? state & ~(1 << inputs) : state;
            return then == 0 ? Survey.END : then;
        }

        @Override
        public int shows(int state, int inputs) {
            return 0;
        }
    }

    /** Some clauses of some signals: s1 .. s7 are bits 1 .. 7, the inputs a .. d bits 8 .. 11. */
    private static final class Formula {
        private final int[][] signals;
        private final boolean[][] negated;

        Formula(Random random, int clauses, int parts) {
            signals = new int[clauses][parts];
            negated = new boolean[clauses][parts];
            for (int i = 0; i < clauses; i++) {
                for (int j = 0; j < parts; j++) {
                    signals[i][j] = 1 + random.nextInt(11);
                    negated[i][j] = random.nextInt(3) == 0;
                }
            }
        }

        boolean holds(int bits) {
            boolean some = false;
            for (int i = 0; i < signals.length; i++) {
                boolean all = true;
                for (int j = 0; j < signals[i].length; j++) {
                    all &= (bits >> signals[i][j] & 1) == 1 != negated[i][j];
                }
                some |= all;
            }
            return some;
        }

        @Override
        public String toString() {
            StringBuilder text = new StringBuilder();
            for (int i = 0; i < signals.length; i++) {
                for (int j = 0; j < signals[i].length; j++) {
                    int signal = signals[i][j];
                    text.append(j > 0 ? " and " : i > 0 ? " or " : "").append(negated[i][j] ? "not " : "");
                    text.append(signal < 8 ? "s" + signal : String.valueOf("abcd".charAt(signal - 8)));
                }
            }
            return text.toString();
        }
    }

    /**
     * In each instant all pauses end, and a loop starts anew: pause 0 always, pause k where its
     * formula holds for the pauses that were selected and the inputs.
     */
    private static final class Formulas implements Survey.Machine {
        private final Formula[] selects = new Formula[8];
        private final Formula[] shows = new Formula[15];
        private final Formula leaves;
        private final Formula doubts;

        Formulas(Random random) {
            for (int k = 1; k < 8; k++) {
                selects[k] = new Formula(random, 3, 2);
            }
            for (int k = 0; k < shows.length; k++) {
                shows[k] = new Formula(random, 2, 2);
            }
            leaves = new Formula(random, 1, 7);
            doubts = new Formula(random, 1, 6);
        }

        String text() {
            StringBuilder text = new StringBuilder("in a,b,c,d;out " + Texts.names("o", 16)
                    + ";signal s1,s2,s3,s4,s5,s6,s7 in trap T in loop pause");
            for (int k = 1; k < 8; k++) {
                text.append("||present ").append(selects[k]).append(" then pause;emit s").append(k).append(" end");
            }
            for (int k = 0; k < shows.length; k++) {
                text.append("||present ").append(shows[k]).append(" then emit o").append(k).append(" end");
            }
            text.append("||present ").append(leaves).append(" then exit T end");
            text.append("||present ").append(doubts).append(" then present o15 else emit o15 end end");
            return text.append(" end end end").toString();
        }

        private static int bits(int state, int inputs) {
            return (state == Survey.FIRST ? 0 : state) | inputs << 8;
        }

        @Override
        public int inputs() {
            return 4;
        }

        @Override
        public int outputs() {
            return 16;
        }

        @Override
        public int pauses() {
            return 8;
        }

        @Override
        public int next(int state, int inputs) {
            int bits = bits(state, inputs);
            if (doubts.holds(bits)) {
                return Survey.NO_REACTION;
            }
            if (leaves.holds(bits)) {
                return Survey.END;
            }
            int then = 1;
            for (int k = 1; k < 8; k++) {
                then |= selects[k].holds(bits) ? 1 << k : 0;
            }
            return then;
        }

        @Override
        public int shows(int state, int inputs) {
            int shown = 0;
            for (int k = 0; k < shows.length; k++) {
                shown |= shows[k].holds(bits(state, inputs)) ? 1 << k : 0;
            }
            return shown;
        }
    }
}

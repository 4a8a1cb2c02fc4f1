import java.util.List;
import java.util.Set;

/** Compares all that an engine answers of states and the net with what a survey found. */
final class SurveyCheck {
    private final Check check;
    private final String mark;
    private final SignalEngine x;
    private final Survey survey;

    SurveyCheck(Check check, String mark, SignalEngine engine, Survey survey) {
        this.check = check;
        this.mark = mark;
        this.x = engine;
        this.survey = survey;
    }

    void compareAll() {
        check.equal(mark + "explore()", x.explore(), survey.next.size());
        compareStates();
        compareOutputs();
        compareAlike();
        compareNet();
    }

    private void compareStates() {
        int steady = 0;
        int[] doubt = {-1, -1, -1};
        for (int state = -1; state <= 258; state++) {
            boolean there = survey.next.containsKey(state);
            List<Integer> way = there ? survey.path.get(state) : List.of();
            check.equal(mark + "distance(" + state + ")", x.distance(state), there ? way.size() : -1);
            for (int i = 0; i <= way.size(); i++) {
                check.equal(mark + "path(" + state + ", " + i + ")", x.path(state, i), i < way.size() ? way.get(i) : -1);
            }
            boolean all = there;
            for (int inputs = -1; inputs <= survey.options; inputs++) {
                boolean asked = there && inputs >= 0 && inputs < survey.options;
                int to = asked ? survey.next.get(state)[inputs] : -1;
                check.equal(mark + "next(" + state + ", " + inputs + ")", x.next(state, inputs), to);
                check.equal(mark + "shows(" + state + ", " + inputs + ")", x.shows(state, inputs),
                        asked ? survey.shows.get(state)[inputs] : -1);
                if (asked && to == -1) {
                    all = false;
                    if (doubt[0] == -1 || way.size() < doubt[0]) {
                        doubt = new int[] {way.size(), state, inputs};
                    }
                }
            }
            steady += all ? 1 : 0;
        }
        for (int what = 0; what < 3; what++) {
            check.equal(mark + "doubt(" + what + ")", x.doubt(what), doubt[what]);
        }
        check.equal(mark + "count(13)", x.count(13), survey.next.size());
        check.equal(mark + "count(14)", x.count(14), steady);
    }

    private void compareOutputs() {
        int outputs = survey.machine.outputs();
        int[][] times = new int[outputs][outputs];
        int reactions = 0;
        for (int state : survey.next.keySet()) {
            for (int shown : survey.shows.get(state)) {
                reactions += shown == -1 ? 0 : 1;
                for (int j = 0; shown != -1 && j < outputs; j++) {
                    for (int k = 0; k < outputs; k++) {
                        times[j][k] += (shown >> j & 1) & (shown >> k & 1);
                    }
                }
            }
        }
        for (int j = -1; j <= outputs; j++) {
            boolean there = reactions > 0 && j >= 0 && j < outputs;
            int often = there ? times[j][j] : 0;
            int ever = !there ? -1 : often == 0 ? 0 : often == reactions ? 2 : 1;
            check.equal(mark + "ever(" + j + ")", x.ever(j), ever);
            for (int k = -1; k <= outputs; k++) {
                boolean both = there && k >= 0 && k < outputs;
                check.equal(mark + "together(" + j + ", " + k + ")", x.together(j, k), both ? times[j][k] : -1);
            }
        }
    }

    private void compareAlike() {
        boolean[][] apart = survey.toldApart();
        int classes = 0;
        for (int state = -1; state <= 258; state++) {
            int least = -1;
            if (survey.next.containsKey(state)) {
                for (int other : survey.next.descendingKeySet()) {
                    least = apart[state][other] ? least : other;
                }
                classes += least == state ? 1 : 0;
            }
            check.equal(mark + "alike(" + state + ")", x.alike(state), least);
        }
        check.equal(mark + "classes()", x.classes(), classes);
    }

    private void compareNet() {
        long[] truths = survey.truths();
        List<Set<String>> all = Survey.noMultiplexers();
        int[] sizes = new int[survey.functions()];
        for (int i = 0; i < sizes.length; i++) {
            List<Set<String>> own = Survey.noMultiplexers();
            Survey.addMultiplexers(truths, i, own);
            Survey.addMultiplexers(truths, i, all);
            sizes[i] = sum(own);
        }
        check.equal(mark + "lay()", x.lay(), sum(all));
        check.equal(mark + "count(15)", x.count(15), sum(all));
        for (int v = -1; v <= 13; v++) {
            check.equal(mark + "level(" + v + ")", x.level(v), v < 0 || v > 12 ? 0 : all.get(12 - v).size());
        }
        for (int i = sizes.length; i >= -1; i--) {
            check.equal(mark + "size(" + i + ")", x.size(i), i < 0 || i == sizes.length ? -1 : sizes[i]);
        }
        for (int choice = 0; choice < truths.length; choice++) {
            check.equal(mark + "pass(" + choice + ")", x.pass(choice), truths[choice]);
        }
    }

    private static int sum(List<Set<String>> atBit) {
        int sum = 0;
        for (Set<String> part : atBit) {
            sum += part.size();
        }
        return sum;
    }
}

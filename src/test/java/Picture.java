/** All that an engine answers to calls that only ask, as one text. */
final class Picture {
    private final StringBuilder text = new StringBuilder();
    private final SignalEngine engine;

    private Picture(SignalEngine engine) {
        this.engine = engine;
    }

    static String of(SignalEngine engine) {
        Picture picture = new Picture(engine);
        picture.counts();
        picture.tree();
        picture.run();
        picture.states();
        picture.reactions();
        picture.net();
        return picture.text.toString();
    }

    private void put(String what, long answer) {
        text.append(what).append(' ').append(answer).append('\n');
    }

    private void counts() {
        for (int what = -1; what <= 16; what++) {
            put("count " + what, engine.count(what));
        }
    }

    private int signals() {
        return engine.count(2) + engine.count(3) + engine.count(4);
    }

    private void tree() {
        for (int k = -1; k <= engine.count(0); k++) {
            for (int what = -1; what <= 7; what++) {
                put("node " + k + " " + what, engine.node(k, what));
            }
        }
        for (int k = -1; k <= engine.count(1); k++) {
            for (int what = -1; what <= 3; what++) {
                put("piece " + k + " " + what, engine.piece(k, what));
            }
        }
        for (int k = -1; k <= signals(); k++) {
            for (int i = -1; i <= 31; i++) {
                put("letter " + k + " " + i, engine.letter(k, i));
            }
        }
    }

    private void run() {
        for (int k = -1; k <= signals(); k++) {
            put("status " + k, engine.status(k));
        }
        for (int k = -1; k <= engine.count(5); k++) {
            put("selected " + k, engine.selected(k) ? 1 : 0);
        }
    }

    private void states() {
        for (int state = -1; state <= 258; state++) {
            put("distance " + state, engine.distance(state));
            put("alike " + state, engine.alike(state));
            for (int i = -1; i <= engine.distance(state); i++) {
                put("path " + state + " " + i, engine.path(state, i));
            }
        }
        for (int what = -1; what <= 3; what++) {
            put("doubt " + what, engine.doubt(what));
        }
        for (int j = -1; j <= engine.count(3); j++) {
            put("ever " + j, engine.ever(j));
            for (int k = -1; k <= engine.count(3); k++) {
                put("together " + j + " " + k, engine.together(j, k));
            }
        }
    }

    private void reactions() {
        if (engine.count(13) == 0) {
            return;
        }
        put("classes", engine.classes());
        for (int state = -1; state <= 258; state++) {
            for (int inputs = -1; inputs <= 16; inputs++) {
                put("next " + state + " " + inputs, engine.next(state, inputs));
                put("shows " + state + " " + inputs, engine.shows(state, inputs));
            }
        }
    }

    private void net() {
        for (int v = -1; v <= 13; v++) {
            put("level " + v, engine.level(v));
        }
        for (int i = -1; i <= 40; i++) {
            put("size " + i, engine.size(i));
        }
        boolean laid = engine.size(0) != SignalEngine.NONE;
        for (int choice = 0; laid && choice < 8192; choice++) {
            put("pass " + choice, engine.pass(choice));
        }
    }
}

import java.util.ArrayList;
import java.util.HashMap;
import java.util.HashSet;
import java.util.List;
import java.util.Map;
import java.util.Set;

/** A second way to find the faults 1, 2, 3 and 5 of a text: all tokens first, then the grammar. */
final class SecondReader {
    private static final Set<String> RESERVED = Set.of(Texts.RESERVED);

    /** What a statement may begin with. */
    private static final Set<String> STARTS = Set.of("(", "nothing", "pause", "halt", "emit", "sustain", "exit",
            "present", "suspend", "loop", "trap", "signal", "await", "abort", "weak", "every");

    /** The text of a token that can't be one. */
    private static final String WRONG = "?";

    /** The end of the text, as a token. */
    private static final String END = "";

    private static final class Found extends RuntimeException {
        private static final long serialVersionUID = 1;
        final int fault;

        Found(int kind, int line) {
            fault = kind + 8 * line;
        }
    }

    /** What a place of the text can see: signals by name (true: an input), and traps. */
    private static final class Scope {
        final Map<String, Boolean> signals = new HashMap<>();
        final Set<String> traps = new HashSet<>();

        Scope within() {
            Scope inner = new Scope();
            inner.signals.putAll(signals);
            inner.traps.addAll(traps);
            return inner;
        }
    }

    private final List<String> tokens = new ArrayList<>();
    private final List<Integer> lines = new ArrayList<>();
    private int at;
    private int open;

    private SecondReader() {
    }

    /** The first fault of those that are found token by token, + 8 * its line; 0 if there is none. */
    static int fault(String text) {
        try {
            SecondReader reader = new SecondReader();
            reader.lookAtCharacters(text);
            reader.split(text);
            reader.program();
        } catch (Found found) {
            return found.fault;
        }
        return 0;
    }

    private void lookAtCharacters(String text) {
        int line = 1;
        for (char c : text.toCharArray()) {
            if (c != 9 && c != 10 && (c < 32 || c > 126)) {
                throw new Found(1, line);
            }
            line += c == 10 ? 1 : 0;
        }
    }

    private void split(String text) {
        String[] rows = text.split("\n", -1);
        for (int i = 0; i < rows.length; i++) {
            int stop = rows[i].indexOf('%');
            splitLine(stop < 0 ? rows[i] : rows[i].substring(0, stop), i + 1);
        }
        add(END, rows.length);
    }

    private void splitLine(String row, int line) {
        String rest = row.replace('\t', ' ').stripLeading();
        while (!rest.isEmpty()) {
            String token = rest.substring(0, lengthOfToken(rest));
            boolean symbol = token.equals("||") || ";,()".contains(token);
            boolean word = Character.isLetter(token.charAt(0)) && token.length() <= 31;
            add(symbol || word ? token : WRONG, line);
            rest = rest.substring(token.length()).stripLeading();
        }
    }

    private static int lengthOfToken(String rest) {
        if (Character.isLetter(rest.charAt(0))) {
            return rest.length() - rest.replaceFirst("[A-Za-z0-9_]+", "").length();
        }
        return rest.startsWith("||") ? 2 : 1;
    }

    private void add(String token, int line) {
        tokens.add(token);
        lines.add(line);
    }

    // ---- the grammar

    private String token() {
        return tokens.get(at);
    }

    private Found found(int kind) {
        return new Found(kind, lines.get(at));
    }

    private boolean isName() {
        return Character.isLetter((token() + " ").charAt(0)) && !RESERVED.contains(token());
    }

    private String name() {
        if (!isName()) {
            throw found(1);
        }
        return token();
    }

    private void take(String due) {
        if (!token().equals(due)) {
            throw found(1);
        }
        at++;
    }

    private boolean skip(String maybe) {
        boolean there = token().equals(maybe);
        at += there ? 1 : 0;
        return there;
    }

    private void open() {
        if (open == 24) {
            throw found(5);
        }
        open++;
        at++;
    }

    private void program() {
        Scope scope = new Scope();
        Set<String> list = new HashSet<>();
        if (skip("in")) {
            names(list, scope, true);
            take(";");
        }
        if (skip("out")) {
            names(list, scope, false);
            take(";");
        }
        body(scope);
        if (!token().equals(END)) {
            throw found(1);
        }
    }

    private void names(Set<String> list, Scope scope, boolean inputs) {
        do {
            if (!list.add(name())) {
                throw found(3);
            }
            scope.signals.put(token(), inputs);
            at++;
        } while (skip(","));
    }

    private void body(Scope scope) {
        do {
            row(scope);
        } while (skip("||"));
    }

    private void row(Scope scope) {
        do {
            statement(scope);
        } while (skip(";"));
    }

    private void statement(Scope scope) {
        String word = token();
        if (!STARTS.contains(word)) {
            throw found(1);
        }
        open();
        switch (word) {
            case "(" -> {
                body(scope);
                take(")");
            }
            case "emit", "sustain" -> emitted(scope);
            case "exit" -> left(scope);
            case "await" -> test(scope);
            case "nothing", "pause", "halt" -> { }
            default -> {
                longStatement(word, scope);
                take("end");
            }
        }
        open--;
    }

    private void emitted(Scope scope) {
        if (scope.signals.getOrDefault(name(), true)) {
            throw found(2);
        }
        at++;
    }

    private void left(Scope scope) {
        if (!scope.traps.contains(name())) {
            throw found(2);
        }
        at++;
    }

    /** A statement that has an end, up to this. */
    private void longStatement(String word, Scope scope) {
        switch (word) {
            case "present" -> present(scope);
            case "loop" -> {
                body(scope);
                if (skip("each")) {
                    test(scope);
                }
            }
            case "trap" -> {
                Scope inner = scope.within();
                inner.traps.add(name());
                at++;
                take("in");
                body(inner);
            }
            case "signal" -> {
                Scope inner = scope.within();
                names(new HashSet<>(), inner, false);
                take("in");
                body(inner);
            }
            case "every" -> {
                test(scope);
                take("do");
                body(scope);
            }
            default -> guarded(word, scope);
        }
    }

    private void present(Scope scope) {
        test(scope);
        boolean then = skip("then");
        if (then) {
            body(scope);
        }
        if (skip("else")) {
            body(scope);
        } else if (!then) {
            throw found(1);
        }
    }

    private void guarded(String word, Scope scope) {
        if (word.equals("weak")) {
            take("abort");
        }
        body(scope);
        take("when");
        test(scope);
    }

    private void test(Scope scope) {
        do {
            part(scope);
        } while (skip("and") || skip("or"));
    }

    private void part(Scope scope) {
        if (token().equals("not")) {
            open();
            part(scope);
            open--;
        } else if (token().equals("(")) {
            open();
            test(scope);
            take(")");
            open--;
        } else {
            if (!scope.signals.containsKey(name())) {
                throw found(2);
            }
            at++;
        }
    }
}

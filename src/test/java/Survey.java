import java.util.ArrayList;
import java.util.Arrays;
import java.util.HashSet;
import java.util.List;
import java.util.Set;
import java.util.TreeMap;
import java.util.TreeSet;

/** All reachable states of a machine, what they do, and the truth functions, found out the slow way. */
final class Survey {
    static final int FIRST = 256;
    static final int END = 257;
    static final int NO_REACTION = -1;

    /** What is explored: it says to which state it goes and what it shows there. */
    interface Machine {
        int inputs();

        int outputs();

        int pauses();

        /** The next state, END or NO_REACTION. */
        int next(int state, int inputs);

        /** The outputs that are present then, as bits; asked only where there is a reaction. */
        int shows(int state, int inputs);
    }

    final Machine machine;
    final int options;
    final TreeMap<Integer, int[]> next = new TreeMap<>();
    final TreeMap<Integer, int[]> shows = new TreeMap<>();
    final TreeMap<Integer, List<Integer>> path = new TreeMap<>();

    Survey(Machine machine) {
        this.machine = machine;
        options = 1 << machine.inputs();
        path.put(FIRST, new ArrayList<>());
        Set<Integer> layer = new TreeSet<>(Set.of(FIRST));
        while (!layer.isEmpty()) {
            TreeMap<Integer, List<Integer>> fresh = new TreeMap<>();
            for (int state : layer) {
                react(state);
                for (int inputs = 0; inputs < options; inputs++) {
                    int then = next.get(state)[inputs];
                    if (then >= 0 && then != END && !path.containsKey(then)) {
                        List<Integer> way = new ArrayList<>(path.get(state));
                        way.add(inputs);
                        if (!fresh.containsKey(then) || isLess(way, fresh.get(then))) {
                            fresh.put(then, way);
                        }
                    }
                }
            }
            path.putAll(fresh);
            layer = fresh.keySet();
        }
    }

    private static boolean isLess(List<Integer> a, List<Integer> b) {
        for (int i = 0; i < a.size(); i++) {
            if (!a.get(i).equals(b.get(i))) {
                return a.get(i) < b.get(i);
            }
        }
        return false;
    }

    private void react(int state) {
        int[] to = new int[options];
        int[] out = new int[options];
        for (int inputs = 0; inputs < options; inputs++) {
            to[inputs] = machine.next(state, inputs);
            out[inputs] = to[inputs] == NO_REACTION ? -1 : machine.shows(state, inputs);
        }
        next.put(state, to);
        shows.put(state, out);
    }

    /** Pairs of states that are told apart, grown until there are no more. */
    boolean[][] toldApart() {
        boolean[][] apart = new boolean[258][258];
        boolean changed = true;
        while (changed) {
            changed = false;
            for (int a : next.keySet()) {
                for (int b : next.keySet()) {
                    if (!apart[a][b] && differ(a, b, apart)) {
                        apart[a][b] = true;
                        apart[b][a] = true;
                        changed = true;
                    }
                }
            }
        }
        return apart;
    }

    private boolean differ(int a, int b, boolean[][] apart) {
        for (int inputs = 0; inputs < options; inputs++) {
            int toA = next.get(a)[inputs];
            int toB = next.get(b)[inputs];
            if (shows.get(a)[inputs] != shows.get(b)[inputs] || (toA == -1) != (toB == -1)
                    || (toA == END) != (toB == END)) {
                return true;
            }
            if (toA != -1 && toA != END && apart[toA][toB]) {
                return true;
            }
        }
        return false;
    }

    /** The truths of all functions on all choices. */
    long[] truths() {
        long[] truths = new long[8192];
        for (int state : next.keySet()) {
            for (int inputs = 0; inputs < options; inputs++) {
                int then = next.get(state)[inputs];
                if (then == -1) {
                    continue;
                }
                int choice = state == FIRST ? 4096 : 0;
                for (int k = 0; k < 8; k++) {
                    choice |= state == FIRST ? 0 : (state >> k & 1) << (11 - k);
                }
                for (int k = 0; k < 4; k++) {
                    choice |= (inputs >> k & 1) << (3 - k);
                }
                long truth = shows.get(state)[inputs];
                truth |= then == END ? 1L << (machine.outputs() + machine.pauses()) : (long) then << machine.outputs();
                truths[choice] = truth;
            }
        }
        return truths;
    }

    int functions() {
        return machine.outputs() + machine.pauses() + 1;
    }

    /**
     * Adds, for each bit, what a function is below the bits above it, wherever it changes with this
     * bit: each of these is a multiplexer, and a set has it once.
     */
    static void addMultiplexers(long[] truths, int function, List<Set<String>> atBit) {
        char[] table = new char[8192];
        for (int choice = 0; choice < 8192; choice++) {
            table[choice] = (char) ('0' + (truths[choice] >> function & 1));
        }
        String all = new String(table);
        Set<String> parts = new HashSet<>(Set.of(all));
        for (int bit = 12; bit >= 0; bit--) {
            Set<String> halves = new HashSet<>();
            for (String part : parts) {
                String zero = part.substring(0, 1 << bit);
                String one = part.substring(1 << bit);
                halves.addAll(Arrays.asList(zero, one));
                if (!zero.equals(one)) {
                    atBit.get(bit).add(part);
                }
            }
            parts = halves;
        }
    }

    static List<Set<String>> noMultiplexers() {
        List<Set<String>> atBit = new ArrayList<>();
        for (int bit = 0; bit < 13; bit++) {
            atBit.add(new HashSet<>());
        }
        return atBit;
    }
}

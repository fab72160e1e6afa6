import java.util.ArrayList;
import java.util.List;

/** The document's promises over lists and the step machine, to compare the class with. */
final class Model {
    private final List<Integer> tokens = new ArrayList<>();
    private int runSet;
    private int runVisited;
    private int runFaults;

    private int position;
    private char needed;

    // What all walks together find; made anew after each change of a complete program.
    private boolean known;
    private int visited;
    private final int[] surely = new int[23];
    private final int[] perhaps = new int[23];
    private boolean ends;
    private int surelyAtEnd;
    private int perhapsAtEnd;
    private int badUses;
    private int secondSets;

    /** What kind of part must come next, or ' ' when the program is complete. */
    char needed() {
        position = 0;
        needed = ' ';
        parse('s');
        return needed;
    }

    private boolean parse(char kind) {
        if (position == tokens.size()) {
            needed = kind;
            return false;
        }
        int token = tokens.get(position);
        position++;
        for (char part : Token.parts(token).toCharArray()) {
            if (!parse(part)) {
                return false;
            }
        }
        return true;
    }

    int feed(int token) {
        char next = needed();
        if (tokens.size() == 22 || next == ' ') {
            return -2;
        }
        boolean listed = false;
        for (int each : Token.ALL) {
            listed |= each == token;
        }
        if (!listed || Token.kind(token) != next) {
            return -1;
        }
        tokens.add(token);
        known = false;
        return tokens.size();
    }

    int back() {
        known = false;
        return tokens.isEmpty() ? -1 : tokens.remove(tokens.size() - 1);
    }

    void clear() {
        known = false;
        tokens.clear();
    }

    int length() {
        return tokens.size();
    }

    boolean complete() {
        return needed() == ' ';
    }

    int visited() {
        return look() ? visited : 0;
    }

    int surely(int k) {
        return look() && k >= 0 && k < tokens.size() ? surely[k] : -1;
    }

    int perhaps(int k) {
        return look() && k >= 0 && k < tokens.size() ? perhaps[k] : -1;
    }

    boolean ends() {
        return look() && ends;
    }

    int surelyAtEnd() {
        return look() ? surelyAtEnd : -1;
    }

    int perhapsAtEnd() {
        return look() ? perhapsAtEnd : -1;
    }

    int badUses() {
        return look() ? badUses : 0;
    }

    int secondSets() {
        return look() ? secondSets : 0;
    }

    private boolean look() {
        if (!complete()) {
            return false;
        }
        if (!known) {
            known = true;
            forget();
            for (Machine.State state : new Machine(tokens).allStates()) {
                note(state);
            }
        }
        return true;
    }

    private void forget() {
        visited = 0;
        ends = false;
        surelyAtEnd = 15;
        perhapsAtEnd = 0;
        badUses = 0;
        secondSets = 0;
        for (int k = 0; k < surely.length; k++) {
            surely[k] = 15;
            perhaps[k] = 0;
        }
    }

    private void note(Machine.State state) {
        if (state.over()) {
            ends = true;
            surelyAtEnd &= state.set();
            perhapsAtEnd |= state.set();
            return;
        }
        if (state.next().kind() != Machine.Kind.VISIT) {
            return;
        }
        int k = state.next().k();
        visited |= 1 << k;
        surely[k] &= state.set();
        perhaps[k] |= state.set();
        if (usesUnset(tokens.get(k), state.set())) {
            badUses |= 1 << k;
        }
        if (setsAgain(tokens.get(k), state.set())) {
            secondSets |= 1 << k;
        }
    }

    private static boolean usesUnset(int token, int set) {
        boolean uses = Token.in(Token.USE, token) || Token.in(Token.PEEK, token);
        return uses && (set >> token % 4 & 1) == 0;
    }

    private static boolean setsAgain(int token, int set) {
        boolean sets = Token.in(Token.SET, token) || Token.in(Token.TRY, token);
        return sets && (set >> token % 4 & 1) == 1;
    }

    int run(int decisions) {
        if (!complete()) {
            return -1;
        }
        Machine machine = new Machine(tokens);
        Machine.State state = machine.start();
        int visits = 0;
        int decided = 0;
        runVisited = 0;
        runFaults = 0;
        while (!state.over()) {
            boolean visit = state.next().kind() == Machine.Kind.VISIT;
            if (visit && visits == 100) {
                break;
            }
            if (visit) {
                visits++;
                runVisited |= 1 << state.next().k();
                runFaults += usesUnset(tokens.get(state.next().k()), state.set()) ? 1 : 0;
            }
            boolean happens = (decisions & 1 << decided % 32) != 0;
            decided += machine.leavesOpen(state) ? 1 : 0;
            state = machine.step(state, happens);
        }
        runSet = state.set();
        return visits;
    }

    int runSet() {
        return runSet;
    }

    int runVisited() {
        return runVisited;
    }

    int runFaults() {
        return runFaults;
    }
}

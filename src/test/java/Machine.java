import java.util.ArrayDeque;
import java.util.ArrayList;
import java.util.HashSet;
import java.util.List;
import java.util.Set;

/**
 * Carries programs out one step at a time with a list of work that is still to be done. It is
 * written apart from the class under test, which links tokens, so that the two can be compared.
 */
final class Machine {
    /** Work to be done, the next piece last; what is set; and the value of the last condition. */
    record State(List<Work> work, int set, boolean value) {
        boolean over() {
            return work.isEmpty();
        }

        Work next() {
            return work.get(work.size() - 1);
        }
    }

    /** VISIT token k, or go on with token k after its first condition (TEST) or its body (AGAIN). */
    record Work(Kind kind, int k) {
    }

    enum Kind { VISIT, TEST, AGAIN }

    private final List<Integer> program;

    Machine(List<Integer> program) {
        this.program = program;
    }

    State start() {
        return new State(List.of(new Work(Kind.VISIT, 0)), 0, false);
    }

    boolean leavesOpen(State state) {
        int token = program.get(state.next().k());
        return state.next().kind() == Kind.VISIT
            && (token == Token.ASK || Token.in(Token.TRY, token) || Token.in(Token.PEEK, token));
    }

    State step(State state, boolean happens) {
        List<Work> work = new ArrayList<>(state.work());
        Work now = work.remove(work.size() - 1);
        int token = program.get(now.k());
        switch (now.kind()) {
            case TEST:
                return test(now.k(), token, work, state);
            case AGAIN:
                work.add(new Work(Kind.VISIT, now.k()));
                return new State(work, state.set(), state.value());
            default:
                return visit(now.k(), token, work, state, happens);
        }
    }

    private State visit(int k, int token, List<Work> work, State state, boolean happens) {
        int set = state.set();
        boolean value = state.value();
        if (token == Token.PAIR) {
            work.add(new Work(Kind.VISIT, part(k, 1)));
            work.add(new Work(Kind.VISIT, part(k, 0)));
        } else if (token == Token.BREAK) {
            leaveLoop(work);
        } else if (!Token.parts(token).isEmpty()) {
            work.add(new Work(Kind.TEST, k));
            work.add(new Work(Kind.VISIT, part(k, 0)));
        } else if (token == Token.YES) {
            value = true;
        } else if (token == Token.NO) {
            value = false;
        } else if (Token.kind(token) == 'c') {
            value = happens;
        }
        if (Token.in(Token.SET, token) || Token.in(Token.TRY, token)) {
            set |= 1 << token % 4;
        }
        return new State(work, set, value);
    }

    private State test(int k, int token, List<Work> work, State state) {
        boolean value = state.value();
        if (token == Token.NOT) {
            value = !value;
        } else if (token == Token.IF || token == Token.PICK) {
            work.add(new Work(Kind.VISIT, part(k, value ? 1 : 2)));
        } else if (token == Token.LOOP && value) {
            work.add(new Work(Kind.AGAIN, k));
            work.add(new Work(Kind.VISIT, part(k, 1)));
        } else if (token == Token.BOTH && value || token == Token.ANY && !value) {
            work.add(new Work(Kind.VISIT, part(k, 1)));
        }
        return new State(work, state.set(), value);
    }

    private static void leaveLoop(List<Work> work) {
        while (!work.isEmpty()) {
            if (work.remove(work.size() - 1).kind() == Kind.AGAIN) {
                return;
            }
        }
    }

    private int part(int k, int number) {
        int at = k + 1;
        for (int i = 0; i < number; i++) {
            at = behind(at);
        }
        return at;
    }

    private int behind(int k) {
        return part(k, Token.parts(program.get(k)).length());
    }

    /** Every state that some walk comes to. */
    Set<State> allStates() {
        Set<State> found = new HashSet<>();
        ArrayDeque<State> open = new ArrayDeque<>();
        found.add(start());
        open.add(start());
        while (!open.isEmpty()) {
            State state = open.remove();
            if (state.over()) {
                continue;
            }
            for (int happens = leavesOpen(state) ? 0 : 1; happens < 2; happens++) {
                State next = step(state, happens == 1);
                if (found.add(next)) {
                    open.add(next);
                }
            }
        }
        return found;
    }
}

import java.util.List;
import java.util.function.Supplier;

/**
 * The edges of one call on desks in one state: values that are taken, and values that are refused without a trace.
 * Every call is made on a new desk, so that each edge stands alone.
 */
final class Edge {
    /** The document promises nothing behind an object's 512th call. */
    private static final int MOST_CALLS = 512;

    private final Due due;
    private final String promise;
    private final Supplier<DialDesk> state;
    private final List<List<Looks.Look>> looks;
    private final int spare;

    /** The state has to be made by no more calls than that. */
    Edge(Due due, String promise, int calls, Supplier<DialDesk> state) {
        this.due = due;
        this.promise = promise;
        this.state = state;
        this.looks = Looks.of(state);
        this.spare = MOST_CALLS - calls - 1;
    }

    /** The desk behind the call, to look at what came of it. */
    DialDesk taken(String what, Looks.Question call, long answer) {
        DialDesk x = state.get();
        due.is(promise + ": " + what, call.ask(x), answer);
        return x;
    }

    void refused(String what, Looks.Question call, long answer) {
        taken(what, call, answer);
        for (List<Looks.Look> row : looks) {
            for (int from = 0; from < row.size(); from += spare) {
                compare(what, call, row.subList(from, Math.min(row.size(), from + spare)));
            }
        }
    }

    private void compare(String what, Looks.Question call, List<Looks.Look> row) {
        DialDesk x = state.get();
        DialDesk untouched = state.get();
        call.ask(x);
        for (Looks.Look look : row) {
            long asBefore = look.question().ask(untouched);
            due.is(promise + ": " + what + " left a trace: " + look.call(), look.question().ask(x), asBefore);
        }
    }
}

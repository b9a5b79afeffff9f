/** A GuardFlow whose calls are counted: beyond the 512th the document promises nothing. */
final class Used {
    static final int MOST_CALLS = 512;

    private final GuardFlow flow = new GuardFlow();
    private int calls = 0;

    int left() {
        return MOST_CALLS - calls;
    }

    private GuardFlow next() {
        if (left() < 1) {
            throw new IllegalStateException("a test makes more than 512 calls of one object");
        }
        calls++;
        return flow;
    }

    boolean begin(int states) {
        return next().begin(states);
    }

    boolean way(int call, int from, int to) {
        return next().way(call, from, to);
    }

    boolean always(int call, boolean on) {
        return next().always(call, on);
    }

    int function(int n) {
        return next().function(n);
    }

    boolean code(int function, int i, int kind, int number) {
        return next().code(function, i, kind, number);
    }

    boolean handler(int function, int from, int to, int target) {
        return next().handler(function, from, to, target);
    }

    int forge() {
        return next().forge();
    }

    boolean take() {
        return next().take();
    }

    int certify(boolean forged) {
        return next().certify(forged);
    }

    int of(boolean forged, int function, int i, int what) {
        return next().of(forged, function, i, what);
    }

    long may(boolean forged, int function, int i) {
        return next().may(forged, function, i);
    }

    long set(boolean forged, int function, int what) {
        return next().set(forged, function, what);
    }

    int size(boolean forged, int function, int what) {
        return next().size(forged, function, what);
    }

    int range(boolean forged, int function, int k, int what) {
        return next().range(forged, function, k, what);
    }

    boolean goes(int call, int from, int to) {
        return next().goes(call, from, to);
    }

    int look(int which) {
        return next().look(which);
    }
}

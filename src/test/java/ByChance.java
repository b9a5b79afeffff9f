import java.util.ArrayList;
import java.util.List;
import java.util.function.Consumer;

/** Calls by chance, from a fixed seed, so that each run of a test makes the same ones. */
final class ByChance {
    private long seed;

    ByChance(long seed) {
        this.seed = seed;
    }

    int below(int bound) {
        seed = seed * 6364136223846793005L + 1442695040888963407L;
        return (int) ((seed >>> 33) % bound);
    }

    /** STATES and WAYS, with some CALLS that change nothing and some that need a GUARD always. */
    List<Consumer<Used>> table() {
        List<Consumer<Used>> calls = new ArrayList<>();
        int states = 1 + below(5);
        calls.add(u -> u.begin(states));
        for (int call = 0; call < 4; call++) {
            int c = call;
            for (int from = 0; from < states; from++) {
                int s = from;
                int to = below(states + 1) - 1;
                boolean stays = call == 0 || below(2) == 0;
                if (stays) {
                    calls.add(u -> u.way(c, s, s));
                } else {
                    calls.add(u -> u.way(c, s, to));
                }
            }
        }
        if (below(3) == 0) {
            int c = below(4);
            calls.add(u -> u.always(c, true));
        }
        return calls;
    }

    /** FUNCTIONS that call, jump and catch, with some GUARDS, right and wrong ones. */
    List<Consumer<Used>> functions() {
        List<Consumer<Used>> calls = new ArrayList<>();
        int count = 1 + below(3);
        for (int f = 0; f < count; f++) {
            int n = 3 + below(8);
            calls.add(u -> u.function(n));
            addCode(calls, f, n, count);
            addHandlers(calls, f, n);
        }
        return calls;
    }

    private void addCode(List<Consumer<Used>> calls, int f, int n, int count) {
        for (int i = 0; i < n; i++) {
            int at = i;
            int kind = i == n - 1 ? Edges.RETURN : below(12);
            switch (kind) {
                case Edges.JUMP, Edges.TEST -> {
                    int t = below(n);
                    calls.add(u -> u.code(f, at, kind, t));
                }
                case Edges.CALL -> {
                    int called = below(count + 1);
                    calls.add(u -> u.code(f, at, Edges.CALL, called));
                }
                case Edges.RETURN, Edges.THROW, Edges.RISK ->
                        calls.add(u -> u.code(f, at, kind, 0));
                case Edges.GUARD, Edges.PLAIN -> {
                    int c = below(4);
                    calls.add(u -> u.code(f, at, Edges.GUARD, c));
                    calls.add(u -> u.code(f, at + 1, Edges.HOST, c));
                    i++;
                }
                default -> {
                    int c = below(4);
                    calls.add(u -> u.code(f, at, Edges.HOST, c));
                }
            }
        }
    }

    private void addHandlers(List<Consumer<Used>> calls, int f, int n) {
        int count = below(3);
        for (int k = 0; k < count; k++) {
            int from = below(n);
            int to = from + 1 + below(n - from);
            int target = below(n);
            calls.add(u -> u.handler(f, from, to, target));
        }
    }
}

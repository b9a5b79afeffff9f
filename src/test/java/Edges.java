import java.util.List;
import java.util.function.Consumer;
import java.util.function.Predicate;
import java.util.function.ToLongFunction;

/**
 * What the tests of the document's sentences have in common: each of their methods names the
 * sentence that it is about, as it stands in the document, and what goes wrong is told with that
 * name.
 */
abstract class Edges {
    static final int NONE = GuardFlow.NONE;
    static final int MIN = Integer.MIN_VALUE;
    static final int MAX = Integer.MAX_VALUE;

    static final int PLAIN = 0;
    static final int JUMP = 1;
    static final int TEST = 2;
    static final int CALL = 3;
    static final int HOST = 4;
    static final int GUARD = 5;
    static final int RETURN = 6;
    static final int THROW = 7;
    static final int RISK = 8;

    private static final Due due = new Due();
    private static String where = "";
    private static int sentences = 0;

    /** What may come behind a refused call: none of these shows that there was one. */
    private static final List<Consumer<Used>> LATER = List.of(
            u -> { },
            u -> u.forge(),
            u -> {
                u.forge();
                u.take();
            },
            u -> {
                u.function(3);
                u.forge();
            });

    static void part(String title, String sentence) {
        name(title, sentence);
    }

    static void terms(String sentence) {
        name("Terms", sentence);
    }

    static void promise(int number, String sentence) {
        name("Promise " + number, sentence);
    }

    private static void name(String part, String sentence) {
        where = part + ", '" + sentence + "'";
        sentences++;
    }

    static void end() {
        System.out.println(sentences + " sentences");
        due.end();
    }

    static void is(String call, long got, long want) {
        due.is(where + ": " + call, got, want);
    }

    static void is(String call, boolean got, boolean want) {
        due.is(where + ": " + call, got, want);
    }

    /** A call that is to answer false, and to change nothing. */
    static void refused(String call, Consumer<Used> before, Predicate<Used> tried) {
        refused(call, before, u -> tried.test(u) ? 1L : 0L, 0L);
    }

    /** A call that is to answer this, and to change nothing, also in what comes later. */
    static void refused(String call, Consumer<Used> before, ToLongFunction<Used> tried, long want) {
        Used used = made(before);
        is(call, tried.applyAsLong(used), want);
        is(call + ", again", tried.applyAsLong(used), want);
        for (Consumer<Used> later : LATER) {
            same(call + " changes nothing",
                    before.andThen(u -> tried.applyAsLong(u)).andThen(later),
                    before.andThen(later));
        }
    }

    static void same(String call, Consumer<Used> one, Consumer<Used> other) {
        is(call, Telling.of(one).equals(Telling.of(other)), true);
    }

    static void differ(String call, Consumer<Used> one, Consumer<Used> other) {
        is(call, Telling.of(one).equals(Telling.of(other)), false);
    }

    static Used made(Consumer<Used> calls) {
        Used used = new Used();
        calls.accept(used);
        return used;
    }

    /**
     * Ints that are none of low .. high: just beside them, far away, and such as come back among
     * them where only some of their bits are looked at.
     */
    static int[] beside(int low, int high) {
        return new int[] {
            MIN, MIN + 1, MIN + high, low - 256, low - 1,
            high + 1, high + 256, 1 << 16, 1 << 28, (1 << 30) + high, MAX - 1, MAX,
        };
    }

    static Used with(int states, int... lengths) {
        Used u = new Used();
        u.begin(states);
        for (int n : lengths) {
            u.function(n);
        }
        return u;
    }

    /** INSTRUCTIONS from the first one on, KIND and number of each. */
    static void code(Used u, int f, int... kindsAndNumbers) {
        for (int k = 0; k + 1 < kindsAndNumbers.length; k += 2) {
            is("code(" + f + ", " + k / 2 + ", ..)",
                    u.code(f, k / 2, kindsAndNumbers[k], kindsAndNumbers[k + 1]), true);
        }
    }

    static void mays(String told, Used u, boolean forged, int f, long... want) {
        for (int i = 0; i < want.length; i++) {
            is(told + ": may(" + forged + ", " + f + ", " + i + ")", u.may(forged, f, i), want[i]);
        }
    }

    /** INSTRUCTIONS of a FUNCTION, KIND and number of each, and that there are no more. */
    static void holds(String told, Used u, boolean forged, int f, int... kindsAndNumbers) {
        int n = kindsAndNumbers.length / 2;
        is(told + ": INSTRUCTIONS", u.size(forged, f, 0), n);
        for (int i = 0; i < n; i++) {
            is(told + ": KIND of " + i, u.of(forged, f, i, 0), kindsAndNumbers[2 * i]);
            is(told + ": number of " + i, u.of(forged, f, i, 1), kindsAndNumbers[2 * i + 1]);
        }
    }

    static void ranges(String told, Used u, boolean forged, int k, int from, int to, int target) {
        is(told + ": FROM of " + k, u.range(forged, 0, k, 0), from);
        is(told + ": TO of " + k, u.range(forged, 0, k, 1), to);
        is(told + ": TARGET of " + k, u.range(forged, 0, k, 2), target);
    }

    /** Something of all there is, and nothing FORGED yet: two GUARDS are lacking. */
    static void something(Used u) {
        u.begin(3);
        u.way(1, 0, 2);
        u.way(1, 2, NONE);
        u.way(2, 0, 0);
        u.way(2, 2, 2);
        u.always(15, true);
        u.function(5);
        u.function(4);
        code(u, 0, HOST, 1, CALL, 1, GUARD, 2, HOST, 2, RETURN, 0);
        code(u, 1, RISK, 0, HOST, 15, TEST, 0, RETURN, 0);
        u.handler(0, 0, 2, 4);
        u.handler(1, 0, 4, 3);
    }

    /** The same, FORGED. */
    static void somethingForged(Used u) {
        something(u);
        u.forge();
    }
}

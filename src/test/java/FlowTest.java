/** Promises 10 to 13: certify, of, may, set: which sets there are, and who NEEDS a GUARD. */
public final class FlowTest {
    private static final int NONE = GuardFlow.NONE;
    private static final int PLAIN = 0;
    private static final int JUMP = 1;
    private static final int TEST = 2;
    private static final int CALL = 3;
    private static final int HOST = 4;
    private static final int GUARD = 5;
    private static final int RETURN = 6;
    private static final int THROW = 7;
    private static final int RISK = 8;
    private static final Due due = new Due();

    public static void main(String[] args) {
        straightOn();
        jumpsAndTests();
        testAtTheEnd();
        hostsAndGuards();
        whatIsGuarded();
        needs();
        severalWays();
        calls();
        callOfNone();
        callWithoutReturn();
        callThatIsNotReached();
        recursion();
        growingBehindCalls();
        deepCalls();
        handlers();
        allThroughHandlers();
        lastState();
        certify();
        wrongInputs();
        due.end();
    }

    private static GuardFlow with(int states, int... lengths) {
        GuardFlow g = new GuardFlow();
        g.begin(states);
        for (int n : lengths) {
            g.function(n);
        }
        return g;
    }

    /** CALL 0 goes from each STATE to the next, the last one nowhere; CALL 1 stays. */
    private static void chain(GuardFlow g, int states) {
        for (int s = 0; s < states; s++) {
            g.way(0, s, s + 1 < states ? s + 1 : NONE);
            g.way(1, s, s);
        }
    }

    private static void code(GuardFlow g, int f, int... kindsAndNumbers) {
        for (int k = 0; k + 1 < kindsAndNumbers.length; k += 2) {
            due.is("code", g.code(f, k / 2, kindsAndNumbers[k], kindsAndNumbers[k + 1]), true);
        }
    }

    private static void mays(String told, GuardFlow g, int f, long... want) {
        for (int i = 0; i < want.length; i++) {
            due.is(told + ": may(" + f + ", " + i + ")", g.may(false, f, i), want[i]);
            due.is(told + ": of(" + f + ", " + i + ", 4)",
                    g.of(false, f, i, 4), Long.bitCount(want[i]));
        }
    }

    private static void sets(String told, GuardFlow g, int f, long entry, long exit, long all) {
        due.is(told + ": ENTRY of " + f, g.set(false, f, 0), entry);
        due.is(told + ": EXIT of " + f, g.set(false, f, 1), exit);
        due.is(told + ": ALL of " + f, g.set(false, f, 2), all);
    }

    private static void straightOn() {
        GuardFlow g = with(2, 3, 2);
        mays("straight on", g, 0, 1, 1, 1);
        mays("not called", g, 1, 0, 0);
        sets("straight on", g, 0, 1, 0, 1);
        sets("not called", g, 1, 0, 0, 0);
        g.code(0, 1, RETURN, 0);
        mays("behind RETURN", g, 0, 1, 1, 0);
        sets("RETURN", g, 0, 1, 1, 1);
        g.code(0, 1, THROW, 0);
        mays("behind THROW", g, 0, 1, 1, 0);
        sets("THROW", g, 0, 1, 0, 1);
        g.code(0, 1, RISK, 0);
        mays("behind RISK", g, 0, 1, 1, 1);
    }

    private static void jumpsAndTests() {
        GuardFlow g = with(4, 6);
        chain(g, 4);
        code(g, 0, TEST, 3, HOST, 0, JUMP, 5, HOST, 0, HOST, 0, RETURN, 0);
        mays("TEST and JUMP", g, 0, 1, 1, 2, 1, 2, 2 | 4);
        sets("TEST and JUMP", g, 0, 1, 6, 7);
        g.code(0, 4, JUMP, 1);
        mays("a loop back", g, 0, 1, 1 | 2, 2 | 4, 1, 2, 2 | 4);
        g.code(0, 2, JUMP, 1);
        mays("a loop over all", g, 0, 1, 15, 14, 1, 2, 0);
    }

    private static void testAtTheEnd() {
        GuardFlow g = with(3, 2);
        chain(g, 3);
        code(g, 0, HOST, 0, TEST, 0);
        mays("TEST at the end", g, 0, 7, 6);
        sets("TEST at the end", g, 0, 1, 0, 7);
        g.code(0, 1, JUMP, 1);
        mays("JUMP to itself", g, 0, 1, 2);
    }

    private static void hostsAndGuards() {
        GuardFlow g = with(4, 4);
        chain(g, 4);
        code(g, 0, GUARD, 0, HOST, 0, HOST, 0, PLAIN, 0);
        mays("GUARD, HOST, HOST", g, 0, 1, 2, 2, 4);
        g.code(0, 2, GUARD, 0);
        mays("GUARD, HOST, GUARD", g, 0, 1, 2, 2, 4);
        g.code(0, 1, HOST, 1);
        mays("GUARD of another", g, 0, 1, 2, 2, 4);
        due.is("HOST 1 behind GUARD 0", g.of(false, 0, 1, 2), 0);
        g.code(0, 0, HOST, 5);
        mays("no WAY at all", g, 0, 1, 0, 0, 0);
    }

    private static void whatIsGuarded() {
        GuardFlow g = with(4, 5);
        chain(g, 4);
        code(g, 0, PLAIN, 0, GUARD, 0, HOST, 0, PLAIN, 0, RETURN, 0);
        due.is("GUARD just ahead", g.of(false, 0, 2, 2), 1);
        due.is("a GUARD is none", g.of(false, 0, 1, 2), 0);
        mays("GUARDED", g, 0, 1, 1, 2, 2, 2);
        g.code(0, 3, JUMP, 2);
        due.is("a JUMP goes to it", g.of(false, 0, 2, 2), 0);
        mays("JUMP to HOST", g, 0, 1, 1, 14, 12, 0);
        g.code(0, 3, TEST, 2);
        due.is("a TEST goes to it", g.of(false, 0, 2, 2), 0);
        g.code(0, 3, JUMP, 1);
        due.is("a JUMP goes to its GUARD", g.of(false, 0, 2, 2), 1);
        g.code(0, 3, RETURN, 0);
        g.code(0, 4, JUMP, 2);
        due.is("one that is never reached goes to it", g.of(false, 0, 2, 2), 0);
        g.code(0, 4, RETURN, 0);
        g.handler(0, 2, 3, 0);
        due.is("in the range of a HANDLER", g.of(false, 0, 2, 2), 1);
        g.handler(0, 0, 2, 2);
        due.is("a HANDLER goes to it", g.of(false, 0, 2, 2), 0);
        GuardFlow h = with(2, 2, 3);
        code(h, 0, GUARD, 0, HOST, 0);
        code(h, 1, JUMP, 1, JUMP, 1, HOST, 0);
        due.is("JUMPS of another FUNCTION", h.of(false, 0, 1, 2), 1);
        code(h, 1, HOST, 0, PLAIN, 0, PLAIN, 0);
        due.is("a HOST at the start", h.of(false, 1, 0, 2), 0);
    }

    private static void needs() {
        GuardFlow g = with(3, 4);
        code(g, 0, HOST, 2, RETURN, 0, HOST, 2, PLAIN, 0);
        due.is("no WAY", g.of(false, 0, 0, 3), 1);
        due.is("no MAY", g.of(false, 0, 2, 3), 0);
        due.is("no HOST", g.of(false, 0, 1, 3), 0);
        g.way(2, 0, 0);
        due.is("a WAY to itself", g.of(false, 0, 0, 3), 0);
        g.way(2, 1, 2);
        due.is("a WAY of another STATE", g.of(false, 0, 0, 3), 0);
        g.way(3, 0, 1);
        due.is("a WAY of another CALL", g.of(false, 0, 0, 3), 0);
        g.always(2, true);
        due.is("always", g.of(false, 0, 0, 3), 1);
        due.is("always, without MAY", g.of(false, 0, 2, 3), 1);
        g.always(2, false);
        due.is("no more always", g.of(false, 0, 0, 3), 0);
        g.way(2, 0, 1);
        due.is("a WAY to another STATE too", g.of(false, 0, 0, 3), 1);
        GuardFlow h = with(3, 1);
        code(h, 0, HOST, 2);
        h.way(2, 0, 0);
        h.way(2, 0, NONE);
        due.is("a WAY to nowhere too", h.of(false, 0, 0, 3), 1);
        GuardFlow k = with(3, 1);
        code(k, 0, GUARD, 2);
        due.is("a GUARD needs none", k.of(false, 0, 0, 3), 0);
    }

    private static void severalWays() {
        GuardFlow g = with(5, 3);
        g.way(7, 0, 1);
        g.way(7, 0, 3);
        g.way(7, 0, NONE);
        g.way(7, 1, 1);
        g.way(7, 3, 4);
        code(g, 0, HOST, 7, HOST, 7, RETURN, 0);
        mays("several WAYS", g, 0, 1, 10, 18);
        sets("several WAYS", g, 0, 1, 18, 27);
    }

    private static void calls() {
        GuardFlow g = with(4, 4, 3);
        chain(g, 4);
        code(g, 0, CALL, 1, CALL, 1, HOST, 0, RETURN, 0);
        code(g, 1, HOST, 1, HOST, 0, RETURN, 0);
        // EXIT is one for all CALLS: what the second brings comes back to the first.
        mays("two CALLS", g, 0, 1, 14, 14, 12);
        mays("what is called", g, 1, 15, 15, 14);
        sets("two CALLS", g, 0, 1, 12, 15);
        sets("what is called", g, 1, 15, 14, 15);
        g.code(0, 1, PLAIN, 0);
        mays("one CALL", g, 0, 1, 2, 2, 4);
        mays("called once", g, 1, 1, 1, 2);
        sets("called once", g, 1, 1, 2, 3);
        g.code(0, 0, JUMP, 2);
        mays("a CALL that is gone", g, 1, 0, 0, 0);
    }

    private static void callOfNone() {
        GuardFlow g = with(2, 3);
        chain(g, 2);
        code(g, 0, CALL, 1, HOST, 0, RETURN, 0);
        g.handler(0, 0, 1, 2);
        mays("CALL of none", g, 0, 1, 0, 1);
        sets("CALL of none", g, 0, 1, 1, 1);
        g.function(1);
        g.code(1, 0, RETURN, 0);
        mays("CALL of one that is there now", g, 0, 1, 1, 3);
    }

    private static void callWithoutReturn() {
        GuardFlow g = with(3, 3, 2);
        chain(g, 3);
        code(g, 0, CALL, 1, PLAIN, 0, RETURN, 0);
        code(g, 1, HOST, 0, PLAIN, 0);
        mays("no RETURN", g, 0, 1, 0, 0);
        sets("no RETURN", g, 0, 1, 0, 3);
        g.code(0, 0, RETURN, 0);
        g.code(0, 1, CALL, 1);
        sets("a CALL that is not reached", g, 0, 1, 1, 1);
        sets("not called", g, 1, 0, 0, 0);
    }

    private static void callThatIsNotReached() {
        GuardFlow g = with(2, 5, 1);
        code(g, 0, CALL, 1, RETURN, 0, CALL, 1, PLAIN, 0, RETURN, 0);
        code(g, 1, RETURN, 0);
        g.handler(0, 2, 3, 4);
        mays("a CALL that is not reached gets no EXIT, and no ALL", g, 0, 1, 1, 0, 0, 0);
        mays("called once", g, 1, 1);
    }

    private static void recursion() {
        GuardFlow g = with(6, 5);
        chain(g, 6);
        code(g, 0, TEST, 3, HOST, 0, CALL, 0, RETURN, 0, PLAIN, 0);
        mays("CALL of itself", g, 0, 63, 63, 62, 63, 0);
        sets("CALL of itself", g, 0, 63, 63, 63);
        g.code(0, 0, PLAIN, 0);
        mays("never back", g, 0, 63, 63, 62, 0, 0);
        sets("never back", g, 0, 63, 0, 63);
    }

    private static void growingBehindCalls() {
        GuardFlow g = with(6, 3, 4);
        chain(g, 6);
        // Each time round EXIT of 1 gets one more, which comes back by the CALL.
        code(g, 0, CALL, 1, HOST, 0, JUMP, 0);
        code(g, 1, TEST, 3, PLAIN, 0, THROW, 0, RETURN, 0);
        mays("round by EXIT", g, 0, 63, 63, 62);
        mays("round by EXIT", g, 1, 63, 63, 63, 63);
        sets("round by EXIT", g, 0, 1, 0, 63);
        sets("round by EXIT", g, 1, 63, 63, 63);
    }

    private static void deepCalls() {
        GuardFlow g = with(9, 2, 3, 3, 3, 3, 3, 3, 3);
        chain(g, 9);
        code(g, 0, CALL, 1, RETURN, 0);
        for (int f = 1; f < 8; f++) {
            code(g, f, HOST, 0, f < 7 ? CALL : PLAIN, f < 7 ? f + 1 : 0, RETURN, 0);
        }
        for (int f = 1; f < 8; f++) {
            long entry = 1L << f - 1;
            sets("eight deep", g, f, entry, 128, 255 & -entry);
        }
        sets("eight deep", g, 0, 1, 128, 255);
    }

    private static void handlers() {
        GuardFlow g = with(5, 8);
        chain(g, 5);
        code(g, 0, HOST, 0, RISK, 0, HOST, 0, THROW, 0, RETURN, 0, PLAIN, 0, HOST, 0, RETURN, 0);
        g.handler(0, 1, 4, 5);
        mays("RISK and THROW", g, 0, 1, 2, 2, 4, 0, 6, 6, 12);
        GuardFlow h = with(5, 8);
        chain(h, 5);
        code(h, 0, HOST, 0, RISK, 0, HOST, 0, THROW, 0, RETURN, 0, PLAIN, 0, HOST, 0, RETURN, 0);
        h.handler(0, 2, 3, 5);
        mays("a HOST throws nothing", h, 0, 1, 2, 2, 4, 0, 0, 0, 0);
        h.handler(0, 1, 3, 5);
        mays("before TO", h, 0, 1, 2, 2, 4, 0, 2, 2, 4);
        h.handler(0, 3, 8, 7);
        mays("FROM on", h, 0, 1, 2, 2, 4, 0, 2, 2, 4);
        due.is("FROM on", h.may(false, 0, 7), 4);
        h.handler(0, 1, 2, 0);
        mays("back to the start", h, 0, 31, 30, 30, 28, 0, 30, 30, 28);
        sets("back to the start", h, 0, 1, 28, 31);
    }

    private static void allThroughHandlers() {
        GuardFlow g = with(5, 3, 3, 3);
        chain(g, 5);
        code(g, 0, CALL, 1, RETURN, 0, RETURN, 0);
        code(g, 1, HOST, 0, CALL, 2, RETURN, 0);
        code(g, 2, HOST, 0, HOST, 0, THROW, 0);
        g.handler(0, 0, 1, 2);
        mays("ALL of what is called", g, 0, 1, 0, 15);
        sets("ALL of what is called", g, 1, 1, 0, 15);
        sets("ALL of what is called", g, 2, 2, 0, 14);
        sets("ALL of what is called", g, 0, 1, 15, 15);
        g.handler(1, 1, 2, 2);
        mays("handled below", g, 0, 1, 14, 15);
        mays("handled below", g, 1, 1, 2, 14);
        // AFTER counts for ALL even where nothing comes behind.
        GuardFlow h = with(3, 1);
        chain(h, 3);
        code(h, 0, HOST, 0);
        sets("AFTER of the last", h, 0, 1, 0, 3);
    }

    private static void lastState() {
        GuardFlow g = with(60, 3);
        g.way(0, 0, 59);
        g.way(0, 59, NONE);
        g.way(1, 59, 59);
        code(g, 0, HOST, 0, HOST, 1, HOST, 0);
        mays("STATE 59", g, 0, 1, 1L << 59, 1L << 59);
        due.is("STATE 59 stays", g.of(false, 0, 1, 3), 0);
        due.is("STATE 59 goes nowhere", g.of(false, 0, 2, 3), 1);
        sets("STATE 59", g, 0, 1, 0, 1L << 59 | 1);
    }

    private static void certify() {
        GuardFlow g = with(3, 3, 200);
        chain(g, 3);
        due.is("all PLAIN", g.certify(false), 0);
        due.is("nothing FORGED", g.certify(true), NONE);
        g.code(1, 199, HOST, 0);
        due.is("a HOST that is not reached", g.certify(false), 0);
        g.always(0, true);
        due.is("the last one of all", g.certify(false), 256 + 199 + 1);
        g.code(1, 198, GUARD, 0);
        due.is("GUARDED", g.certify(false), 0);
        g.code(1, 0, JUMP, 199);
        due.is("gone to: its GUARD is first", g.certify(false), 256 + 198 + 1);
        g.code(0, 2, GUARD, 0);
        due.is("a GUARD at the end", g.certify(false), 3);
        g.code(0, 1, GUARD, 0);
        due.is("a GUARD ahead of a GUARD", g.certify(false), 2);
        g.code(0, 2, HOST, 1);
        due.is("a GUARD of another", g.certify(false), 2);
        g.code(0, 0, HOST, 0);
        due.is("a HOST without", g.certify(false), 1);
        g.code(0, 0, HOST, 1);
        g.code(0, 1, HOST, 1);
        due.is("HOSTS that need none", g.certify(false), 256 + 198 + 1);
        g.code(0, 1, GUARD, 1);
        due.is("GUARDED without need", g.certify(false), 256 + 198 + 1);
    }

    private static void wrongInputs() {
        GuardFlow g = with(3, 3);
        int min = Integer.MIN_VALUE;
        int max = Integer.MAX_VALUE;
        for (int bad : new int[] {min, -1, 3, 200, max}) {
            due.is("of INSTRUCTION " + bad, g.of(false, 0, bad, 0), NONE);
            due.is("may INSTRUCTION " + bad, g.may(false, 0, bad), 0);
            due.is("set what " + bad, g.set(false, 0, bad), 0);
            due.is("of FUNCTION " + bad, g.of(false, bad, 0, 0), NONE);
            due.is("may FUNCTION " + bad, g.may(false, bad, 0), 0);
            due.is("set FUNCTION " + bad, g.set(false, bad, 0), 0);
        }
        for (int bad : new int[] {min, -1, 5, max}) {
            due.is("of what " + bad, g.of(false, 0, 0, bad), NONE);
        }
        due.is("of, nothing FORGED", g.of(true, 0, 0, 0), NONE);
        due.is("may, nothing FORGED", g.may(true, 0, 0), 0);
        due.is("set, nothing FORGED", g.set(true, 0, 0), 0);
        g.forge();
        due.is("of, FORGED", g.of(true, 0, 0, 4), 1);
        due.is("may, FORGED", g.may(true, 0, 0), 1);
        due.is("set, FORGED", g.set(true, 0, 0), 1);
        due.is("of FORGED INSTRUCTION 3", g.of(true, 0, 3, 0), NONE);
        due.is("may of FORGED FUNCTION 1", g.may(true, 1, 0), 0);
    }
}

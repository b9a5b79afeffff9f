/** Promises 8 and 9: forge and take; and what the other calls say of what was FORGED. */
public final class ForgeTest {
    private static final int NONE = GuardFlow.NONE;
    private static final int JUMP = 1;
    private static final int TEST = 2;
    private static final int HOST = 4;
    private static final int GUARD = 5;
    private static final int RETURN = 6;
    private static final int RISK = 8;
    private static final Due due = new Due();

    public static void main(String[] args) {
        nothingToDo();
        oneGuard();
        whereThingsGo();
        rangesMove();
        guardedHostsStay();
        guardThatIsPassedBy();
        onlyThoseThatNeed();
        tooLong();
        takeAndAgain();
        manyTimes();
        due.end();
    }

    private static GuardFlow with(int states, int... lengths) {
        GuardFlow g = new GuardFlow();
        g.begin(states);
        for (int n : lengths) {
            g.function(n);
        }
        return g;
    }

    private static void code(GuardFlow g, int f, int... kindsAndNumbers) {
        for (int k = 0; k + 1 < kindsAndNumbers.length; k += 2) {
            due.is("code", g.code(f, k / 2, kindsAndNumbers[k], kindsAndNumbers[k + 1]), true);
        }
    }

    private static void is(String told, GuardFlow g, boolean forged, int f, int... kindsAndNumbers) {
        int n = kindsAndNumbers.length / 2;
        due.is(told + ": INSTRUCTIONS", g.size(forged, f, 0), n);
        for (int i = 0; i < n; i++) {
            due.is(told + ": KIND of " + i, g.of(forged, f, i, 0), kindsAndNumbers[2 * i]);
            due.is(told + ": number of " + i, g.of(forged, f, i, 1), kindsAndNumbers[2 * i + 1]);
        }
        due.is(told + ": none behind", g.of(forged, f, n, 0), NONE);
    }

    private static void range(String told, GuardFlow g, int k, int from, int to, int target) {
        due.is(told + ": FROM", g.range(true, 0, k, 0), from);
        due.is(told + ": TO", g.range(true, 0, k, 1), to);
        due.is(told + ": TARGET", g.range(true, 0, k, 2), target);
    }

    private static void nothingToDo() {
        GuardFlow g = new GuardFlow();
        due.is("forge nothing", g.forge(), 0);
        due.is("it is FORGED", g.look(3), 1);
        due.is("of no INSTRUCTIONS", g.look(5), 0);
        due.is("certify it", g.certify(true), 0);
        due.is("take it", g.take(), true);
        due.is("take it again", g.take(), false);
        GuardFlow h = with(1, 2);
        due.is("forge all PLAIN", h.forge(), 0);
        is("all PLAIN", h, true, 0, 0, 0, 0, 0);
    }

    private static void oneGuard() {
        GuardFlow g = with(2, 2, 1);
        g.way(3, 0, 1);
        code(g, 0, HOST, 3, RETURN, 0);
        due.is("forge", g.forge(), 1);
        is("as it was", g, false, 0, HOST, 3, RETURN, 0);
        is("FORGED", g, true, 0, GUARD, 3, HOST, 3, RETURN, 0);
        is("the other", g, true, 1, 0, 0);
        due.is("MAY of the GUARD", g.may(true, 0, 0), 1);
        due.is("MAY of the HOST", g.may(true, 0, 1), 2);
        due.is("MAY behind it", g.may(true, 0, 2), 2);
        due.is("GUARDED", g.of(true, 0, 1, 2), 1);
        due.is("NEEDS one", g.of(true, 0, 1, 3), 1);
        due.is("EXIT", g.set(true, 0, 1), 2);
        due.is("ALL", g.set(true, 0, 2), 3);
        due.is("CERTIFIED", g.certify(true), 0);
        due.is("not CERTIFIED", g.certify(false), 1);
        due.is("forge again", g.forge(), 1);
        due.is("FORGED INSTRUCTIONS", g.look(5), 4);
    }

    private static void whereThingsGo() {
        GuardFlow g = with(1, 6);
        g.always(1, true);
        code(g, 0, TEST, 3, HOST, 1, JUMP, 4, HOST, 1, TEST, 1, JUMP, 5);
        g.handler(0, 0, 6, 3);
        due.is("forge", g.forge(), 2);
        is("FORGED", g, true, 0,
                TEST, 4, GUARD, 1, HOST, 1, JUMP, 6, GUARD, 1, HOST, 1, TEST, 1, JUMP, 7);
        range("the HANDLER", g, 0, 0, 8, 4);
        due.is("CERTIFIED", g.certify(true), 0);
        range("the HANDLER, after certify", g, 0, 0, 8, 4);
    }

    private static void rangesMove() {
        GuardFlow g = with(1, 5);
        g.always(2, true);
        code(g, 0, RISK, 0, HOST, 2, RISK, 0, HOST, 2, RISK, 0);
        g.handler(0, 1, 3, 0);
        g.handler(0, 0, 1, 2);
        g.handler(0, 2, 5, 1);
        g.handler(0, 3, 4, 4);
        due.is("forge", g.forge(), 2);
        range("FROM and TO at HOSTS", g, 0, 1, 4, 0);
        range("TO at a HOST", g, 1, 0, 1, 3);
        range("TO at the end", g, 2, 3, 7, 1);
        range("FROM at a HOST", g, 3, 4, 6, 6);
        due.is("four HANDLERS", g.size(true, 0, 1), 4);
        due.is("as they were", g.range(false, 0, 0, 1), 3);
    }

    private static void guardedHostsStay() {
        GuardFlow g = with(2, 4);
        g.way(1, 0, 1);
        code(g, 0, GUARD, 1, HOST, 1, HOST, 1, RETURN, 0);
        g.handler(0, 1, 2, 0);
        due.is("forge", g.forge(), 1);
        is("FORGED", g, true, 0, GUARD, 1, HOST, 1, GUARD, 1, HOST, 1, RETURN, 0);
        range("FROM at a HOST that got no GUARD", g, 0, 1, 2, 0);
    }

    private static void guardThatIsPassedBy() {
        GuardFlow g = with(1, 4);
        g.always(1, true);
        code(g, 0, TEST, 2, GUARD, 1, HOST, 1, RETURN, 0);
        due.is("forge", g.forge(), 1);
        is("FORGED", g, true, 0, TEST, 2, GUARD, 1, GUARD, 1, HOST, 1, RETURN, 0);
        due.is("the old GUARD guards nothing", g.certify(true), 2);
    }

    private static void onlyThoseThatNeed() {
        GuardFlow g = with(2, 5);
        g.way(1, 0, 0);
        g.way(2, 0, 1);
        g.way(2, 1, 1);
        code(g, 0, HOST, 1, HOST, 2, HOST, 2, RETURN, 0, HOST, 2);
        due.is("forge", g.forge(), 1);
        is("FORGED", g, true, 0, HOST, 1, GUARD, 2, HOST, 2, HOST, 2, RETURN, 0, HOST, 2);
        due.is("CERTIFIED", g.certify(true), 0);
    }

    private static void tooLong() {
        GuardFlow g = with(1, 10, 199);
        g.always(9, true);
        code(g, 0, HOST, 9);
        g.code(1, 198, HOST, 9);
        due.is("200 INSTRUCTIONS", g.forge(), 2);
        due.is("the longest", g.size(true, 1, 0), 200);
        due.is("its last one", g.of(true, 1, 199, 0), HOST);
        g.code(1, 7, HOST, 9);
        due.is("201 INSTRUCTIONS", g.forge(), -2);
        due.is("nothing is FORGED", g.look(3), 0);
        due.is("nothing to take", g.take(), false);
        due.is("no FORGED INSTRUCTIONS", g.look(5), NONE);
        due.is("as they were", g.look(4), 209);
        GuardFlow h = with(1, 200);
        for (int i = 0; i < 200; i++) {
            h.code(0, i, HOST, i % 16);
        }
        for (int c = 0; c < 16; c++) {
            h.always(c, true);
        }
        due.is("all of 200", h.forge(), -2);
    }

    private static void takeAndAgain() {
        GuardFlow g = with(2, 3);
        due.is("take, nothing FORGED", g.take(), false);
        g.way(1, 0, 1);
        code(g, 0, HOST, 1, JUMP, 0, RETURN, 0);
        g.handler(0, 0, 3, 2);
        due.is("forge", g.forge(), 1);
        due.is("take", g.take(), true);
        is("taken", g, false, 0, GUARD, 1, HOST, 1, JUMP, 0, RETURN, 0);
        due.is("nothing is FORGED", g.look(3), 0);
        due.is("FROM", g.range(false, 0, 0, 0), 0);
        due.is("TO", g.range(false, 0, 0, 1), 4);
        due.is("TARGET", g.range(false, 0, 0, 2), 3);
        due.is("INSTRUCTIONS", g.look(4), 4);
        due.is("MAY", g.may(false, 0, 1), 2);
        due.is("forge what is GUARDED", g.forge(), 0);
        due.is("the same", g.look(5), 4);
        due.is("code of what was taken", g.code(0, 3, HOST, 1), true);
        due.is("a HOST that is not reached", g.certify(false), 0);
        g.code(0, 2, TEST, 0);
        due.is("reached now", g.certify(false), 4);
        due.is("forge", g.forge(), 1);
        is("FORGED", g, true, 0, GUARD, 1, HOST, 1, TEST, 0, GUARD, 1, HOST, 1);
        due.is("one more FUNCTION", g.function(2), 1);
        is("a new one is PLAIN", g, false, 1, 0, 0, 0, 0);
    }

    /** Each round of it is FORGED and taken: rows that are used again bring nothing back. */
    private static void manyTimes() {
        GuardFlow g = new GuardFlow();
        for (int round = 0; round < 20; round++) {
            int n = round % 3 == 0 ? 100 : 3;
            g.begin(1 + round % 60);
            due.is("function", g.function(n), 0);
            due.is("INSTRUCTIONS", g.size(false, 0, 0), n);
            due.is("no HANDLERS", g.size(false, 0, 1), 0);
            due.is("no HOSTS", g.size(false, 0, 2), 0);
            due.is("no GUARDS", g.size(false, 0, 3), 0);
            due.is("PLAIN", g.of(false, 0, 0, 0), 0);
            due.is("number 0", g.of(false, 0, 0, 1), 0);
            due.is("MAY of the last", g.may(false, 0, n - 1), 1);
            g.code(0, n - 1, HOST, round % 16);
            g.code(0, 0, TEST, n - 1);
            g.handler(0, 0, n, n - 1);
            due.is("forge", g.forge(), 1);
            due.is("take", g.take(), true);
            due.is("TEST", g.of(false, 0, 0, 1), n - 1);
            due.is("GUARD", g.of(false, 0, n - 1, 0), GUARD);
            due.is("HOST", g.of(false, 0, n, 0), HOST);
            due.is("MAY", g.may(false, 0, n - 1), 1);
            due.is("no MAY", g.may(false, 0, n), 0);
        }
    }
}

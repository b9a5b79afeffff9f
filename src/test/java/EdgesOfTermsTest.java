import java.util.List;
import java.util.function.Consumer;

/** The edges that 'Terms' names for all promises, and how often an object may be used. */
public final class EdgesOfTermsTest extends Edges {
    public static void main(String[] args) {
        states();
        stateAtFirst();
        callsOutside();
        severalWays();
        noWay();
        upToEightFunctions();
        upToTwoHundredInstructions();
        upToSixHandlers();
        kinds();
        callOfNone();
        behindJump();
        behindTest();
        behindReturnAndThrow();
        behindAllOthers();
        guardedJustAhead();
        guardedNotGoneTo();
        leastSets();
        entryOfTheFirst();
        mayOfTheFirstInstruction();
        entryOfCalls();
        afterGuardAndHost();
        afterCall();
        exitOfReturns();
        allOfMayAndAfter();
        allOfCalled();
        handlersInRange();
        handlersOfCalls();
        needsAlways();
        needsByWays();
        changesNothing();
        fiveHundredAndTwelveCalls();
        end();
    }

    private static void sets(String told, Used u, int f, long entry, long exit, long all) {
        is(told + ": ENTRY of " + f, u.set(false, f, 0), entry);
        is(told + ": EXIT of " + f, u.set(false, f, 1), exit);
        is(told + ": ALL of " + f, u.set(false, f, 2), all);
    }

    private static void states() {
        terms("STATES are 0 .. S - 1, S 1 .. 60");
        for (int states : new int[] {1, 2, 60}) {
            Consumer<Used> begun = u -> u.begin(states);
            is("begin(" + states + ")", new Used().begin(states), true);
            is("way from and to the first", made(begun).way(0, 0, 0), true);
            is("way from the last", made(begun).way(0, states - 1, 0), true);
            is("way to the last", made(begun).way(0, 0, states - 1), true);
            is("way from one more", made(begun).way(0, states, 0), false);
            is("way to one more", made(begun).way(0, 0, states), false);
            is("way from one less", made(begun).way(0, -1, 0), false);
            is("way to one less than nowhere", made(begun).way(0, 0, -2), false);
        }
        is("begin(0)", new Used().begin(0), false);
        is("begin(61)", new Used().begin(61), false);
        is("begin(min)", new Used().begin(MIN), false);
        is("begin(max)", new Used().begin(MAX), false);
    }

    private static void stateAtFirst() {
        terms("state 0 is there at first");
        for (int states : new int[] {1, 60}) {
            Used u = with(states, 1);
            is("ENTRY", u.set(false, 0, 0), 1);
            is("MAY", u.may(false, 0, 0), 1);
            is("how many", u.of(false, 0, 0, 4), 1);
        }
    }

    private static void callsOutside() {
        terms("CALLS OUTSIDE have numbers 0 .. 15");
        for (int call = 0; call <= 15; call++) {
            Used u = with(1, 1);
            is("way of " + call, u.way(call, 0, 0), true);
            is("goes of " + call, u.goes(call, 0, 0), true);
            is("always of " + call, u.always(call, true), true);
            is("HOST " + call, u.code(0, 0, HOST, call), true);
            is("GUARD " + call, u.code(0, 0, GUARD, call), true);
        }
        for (int call : beside(0, 15)) {
            refused("way of " + call, Edges::somethingForged, u -> u.way(call, 0, 0));
            refused("goes of " + call, Edges::somethingForged, u -> u.goes(call, 0, 0));
            refused("always of " + call, Edges::somethingForged, u -> u.always(call, true));
            refused("HOST " + call, Edges::somethingForged, u -> u.code(0, 0, HOST, call));
            refused("GUARD " + call, Edges::somethingForged, u -> u.code(0, 0, GUARD, call));
        }
    }

    private static void severalWays() {
        terms("A WAY of a CALL is from a STATE to a STATE, or to nowhere; there may be several"
                + " from one.");
        Used u = with(60, 2);
        for (int to = -1; to < 60; to++) {
            is("way(7, 0, " + to + ")", u.way(7, 0, to), true);
        }
        is("WAYS", u.look(1), 61);
        u.code(0, 0, HOST, 7);
        is("MAY behind", u.may(false, 0, 1), (1L << 60) - 1);
        is("no WAY from another", u.goes(7, 1, 0), false);
    }

    private static void noWay() {
        terms("One from which there is no WAY of it goes nowhere by it.");
        for (int kind : new int[] {HOST, GUARD}) {
            Used u = with(3, 3);
            code(u, 0, kind, 2, RETURN, 0, PLAIN, 0);
            mays("no WAYS at all", u, false, 0, 1, 0, 0);
            sets("no WAYS at all", u, 0, 1, 0, 1);
            u.way(2, 1, 1);
            u.way(2, 2, 0);
            u.way(3, 0, 1);
            mays("of other STATES, and of another CALL", u, false, 0, 1, 0, 0);
            u.way(2, 0, NONE);
            mays("one to nowhere", u, false, 0, 1, 0, 0);
            u.way(2, 0, 2);
            mays("one to a STATE", u, false, 0, 1, 4, 0);
        }
    }

    private static void upToEightFunctions() {
        terms("FUNCTIONS, up to 8");
        Used u = new Used();
        for (int f = 0; f < 8; f++) {
            is("function", u.function(1), f);
        }
        is("one more", u.function(1), NONE);
        is("FUNCTIONS", u.look(2), 8);
        is("code of the last", u.code(7, 0, RISK, 0), true);
        is("code of one more", u.code(8, 0, RISK, 0), false);
        is("forge", u.forge(), 0);
        is("FORGED, the last", u.of(true, 7, 0, 0), RISK);
        is("FORGED, one more", u.of(true, 8, 0, 0), NONE);
    }

    private static void upToTwoHundredInstructions() {
        terms("have 1 .. 200 INSTRUCTIONS");
        for (int n : new int[] {1, 200}) {
            Used u = new Used();
            is("function(" + n + ")", u.function(n), 0);
            is("the last", u.code(0, n - 1, RISK, 0), true);
            is("one more", u.code(0, n, RISK, 0), false);
            is("reached", u.size(false, 0, 4), n);
        }
        for (int n : new int[] {0, 201, -1, MIN, MAX}) {
            refused("function(" + n + ")", Edges::somethingForged, u -> u.function(n), NONE);
        }
    }

    private static void upToSixHandlers() {
        terms("and up to 6 HANDLERS");
        Used u = new Used();
        u.function(7);
        u.function(7);
        for (int k = 0; k < 6; k++) {
            is("no HANDLER " + k + " yet", u.range(false, 0, k, 0), NONE);
            is("handler " + k, u.handler(0, k, k + 1, k), true);
        }
        is("one more", u.handler(0, 6, 7, 6), false);
        is("HANDLERS", u.size(false, 0, 1), 6);
        is("one of another FUNCTION", u.handler(1, 6, 7, 6), true);
        is("the last", u.range(false, 0, 5, 2), 5);
        u.forge();
        is("FORGED", u.size(true, 0, 1), 6);
        is("FORGED, the last", u.range(true, 0, 5, 2), 5);
    }

    private static void kinds() {
        terms("An INSTRUCTION has a KIND, and a number: 0 PLAIN (0), 1 JUMP to INSTRUCTION t,"
                + " 2 TEST t, 3 CALL of FUNCTION f (it need not be there), 4 HOST c, 5 GUARD c,"
                + " 6 RETURN (0), 7 THROW (0), 8 RISK (0).");
        int[] last = {0, 8, 8, 7, 15, 15, 0, 0, 0};
        for (int kind = 0; kind <= 8; kind++) {
            Used u = with(1, 9, 9);
            for (int i : new int[] {0, 8}) {
                is("the least of KIND " + kind, u.code(1, i, kind, 0), true);
                is("KIND", u.of(false, 1, i, 0), kind);
                is("number", u.of(false, 1, i, 1), 0);
                is("the last of KIND " + kind, u.code(1, i, kind, last[kind]), true);
                is("number", u.of(false, 1, i, 1), last[kind]);
                for (int number : beside(0, last[kind])) {
                    is("number " + number + " of KIND " + kind,
                            u.code(1, i, kind, number), false);
                }
                is("KIND, as before", u.of(false, 1, i, 0), kind);
                is("number, as before", u.of(false, 1, i, 1), last[kind]);
            }
        }
    }

    private static void callOfNone() {
        terms("3 CALL of FUNCTION f (it need not be there)");
        for (int f = 1; f < 8; f++) {
            Used u = with(2, 3);
            is("CALL " + f, u.code(0, 0, CALL, f), true);
            u.code(0, 2, RISK, 0);
            u.handler(0, 0, 1, 2);
            mays("it is not there", u, false, 0, 1, 0, 1);
            sets("it is not there", u, 0, 1, 0, 1);
            is("ENTRY of what is not there", u.set(false, f, 0), 0);
            is("certify", u.certify(false), 0);
            is("forge", u.forge(), 0);
            for (int n = 1; n < f; n++) {
                u.function(1);
            }
            mays("it is not there yet", u, false, 0, 1, 0, 1);
            u.function(1);
            u.code(f, 0, RETURN, 0);
            mays("it is there now", u, false, 0, 1, 1, 1);
            is("ENTRY of what is there", u.set(false, f, 0), 1);
        }
        Used u = with(1, 1);
        is("of itself", u.code(0, 0, CALL, 0), true);
        sets("of itself", u, 0, 1, 0, 1);
        u.begin(1);
        u.function(2);
        u.code(0, 0, CALL, 1);
        mays("one that was there before begin", u, false, 0, 1, 0);
    }

    private static void behindJump() {
        terms("Behind JUMP t comes t");
        for (int n : new int[] {1, 3, 200}) {
            Used u = with(1, n);
            u.code(0, 0, JUMP, n - 1);
            is("MAY of the last", u.may(false, 0, n - 1), 1);
            is("reached", u.size(false, 0, 4), Math.min(n, 2));
            u.code(0, n - 1, JUMP, 0);
            is("back to the first, reached", u.size(false, 0, 4), Math.min(n, 2));
            u.code(0, 0, JUMP, 0);
            is("to itself, reached", u.size(false, 0, 4), 1);
        }
    }

    private static void behindTest() {
        terms("behind TEST t comes t and the next INSTRUCTION");
        Used u = with(1, 200);
        u.code(0, 0, TEST, 199);
        u.code(0, 2, RETURN, 0);
        mays("both", u, false, 0, 1, 1, 1, 0);
        is("t", u.may(false, 0, 199), 1);
        is("reached", u.size(false, 0, 4), 4);
        u.code(0, 199, TEST, 198);
        is("the last one has no next: reached", u.size(false, 0, 4), 5);
        u.code(0, 199, TEST, 199);
        is("to itself: reached", u.size(false, 0, 4), 4);
        Used one = with(1, 1, 1);
        one.code(0, 0, TEST, 0);
        mays("the only one", one, false, 0, 1, 0);
        mays("not the next FUNCTION", one, false, 1, 0);
    }

    private static void behindReturnAndThrow() {
        terms("behind RETURN and THROW none");
        for (int kind : new int[] {RETURN, THROW}) {
            Used u = with(1, 3, 1);
            u.code(0, 1, kind, 0);
            mays("in the midst", u, false, 0, 1, 1, 0);
            u.code(0, 1, PLAIN, 0);
            u.code(0, 2, kind, 0);
            mays("the last one", u, false, 0, 1, 1, 1);
            mays("not the next FUNCTION", u, false, 1, 0);
            u.code(0, 0, kind, 0);
            mays("the first one", u, false, 0, 1, 0, 0);
        }
    }

    private static void behindAllOthers() {
        terms("behind all others the next one, if there is one");
        for (int kind : new int[] {PLAIN, CALL, HOST, GUARD, RISK}) {
            for (int n : new int[] {1, 2, 199, 200}) {
                // A longer FUNCTION was in the same rows before: nothing of it comes behind.
                Used u = with(2, 200);
                u.begin(2);
                u.function(n);
                u.function(2);
                u.way(5, 0, 1);
                u.code(1, 0, RETURN, 0);
                int number = kind == CALL ? 1 : kind == HOST || kind == GUARD ? 5 : 0;
                u.code(0, n - 1, kind, number);
                is("KIND " + kind + " the last of " + n, u.may(false, 0, n - 1), 1);
                is("none behind it", u.may(false, 0, n), 0);
                is("not the first", u.may(false, 0, 0), 1);
                is("not the next FUNCTION's", u.may(false, 1, 0), kind == CALL ? 1 : 0);
                is("EXIT", u.set(false, 0, 1), 0);
                is("AFTER is in ALL", u.set(false, 0, 2), number == 5 ? 3 : 1);
                is("reached", u.size(false, 0, 4), n);
                if (n > 1) {
                    u.code(0, n - 2, kind, number);
                    is("the next one", u.may(false, 0, n - 1), number == 5 ? 2 : 1);
                }
            }
        }
    }

    private static void guardedJustAhead() {
        terms("HOST c is GUARDED if GUARD c is just ahead of it");
        for (int c : new int[] {0, 15}) {
            Used u = with(1, 200, 1);
            u.code(0, 198, GUARD, c);
            u.code(0, 199, HOST, c);
            u.code(1, 0, HOST, c);
            is("the last one", u.of(false, 0, 199, 2), 1);
            is("its GUARD is no HOST", u.of(false, 0, 198, 2), 0);
            is("the first one has none ahead", u.of(false, 1, 0, 2), 0);
            u.code(0, 198, GUARD, c == 0 ? 1 : 14);
            is("GUARD of another", u.of(false, 0, 199, 2), 0);
            u.code(0, 198, PLAIN, 0);
            u.code(0, 197, GUARD, c);
            is("two ahead", u.of(false, 0, 199, 2), 0);
            u.code(0, 198, HOST, c);
            is("behind the one that is GUARDED", u.of(false, 0, 199, 2), 0);
            u.code(0, 199, GUARD, c);
            is("the last one of the FUNCTION before", u.of(false, 1, 0, 2), 0);
            u.code(0, 0, HOST, c);
            is("the last one of its own FUNCTION", u.of(false, 0, 0, 2), 0);
        }
    }

    private static void guardedNotGoneTo() {
        terms("and no JUMP, TEST or HANDLER of its FUNCTION goes to it");
        Used u = with(1, 4, 4);
        code(u, 0, PLAIN, 0, GUARD, 0, HOST, 0, RETURN, 0);
        for (int kind : new int[] {JUMP, TEST}) {
            for (int i : new int[] {0, 3}) {
                u.code(0, i, kind, 2);
                is("KIND " + kind + " at " + i, u.of(false, 0, 2, 2), 0);
                u.code(0, i, kind, 1);
                is("one ahead of it", u.of(false, 0, 2, 2), 1);
                u.code(0, i, kind, 3);
                is("one behind it", u.of(false, 0, 2, 2), 1);
                u.code(0, i, PLAIN, 0);
            }
            u.code(1, 0, kind, 2);
            is("of another FUNCTION", u.of(false, 0, 2, 2), 1);
        }
        u.handler(1, 0, 1, 2);
        is("HANDLER of another FUNCTION", u.of(false, 0, 2, 2), 1);
        u.handler(0, 2, 4, 1);
        u.handler(0, 0, 2, 3);
        is("FROM and TO at it", u.of(false, 0, 2, 2), 1);
        u.handler(0, 3, 4, 2);
        is("TARGET", u.of(false, 0, 2, 2), 0);
    }

    private static void leastSets() {
        terms("MAY of each INSTRUCTION, ENTRY, EXIT and ALL of each FUNCTION are the least sets of"
                + " STATES for which");
        Used u = with(60, 4, 1, 1);
        for (int s = 0; s < 60; s++) {
            u.way(0, s, s);
        }
        code(u, 0, RETURN, 0, HOST, 0, CALL, 1, JUMP, 1);
        u.handler(0, 1, 4, 1);
        u.code(1, 0, CALL, 2);
        u.code(2, 0, CALL, 1);
        mays("a round that is not reached", u, false, 0, 1, 0, 0, 0);
        sets("a round that is not reached", u, 0, 1, 1, 1);
        sets("FUNCTIONS that call each other alone", u, 1, 0, 0, 0);
        sets("FUNCTIONS that call each other alone", u, 2, 0, 0, 0);
        is("reached", u.size(false, 0, 4), 1);
        is("none reached", u.size(false, 1, 4), 0);
        u.code(0, 0, TEST, 2);
        mays("the round is reached", u, false, 0, 1, 1, 1, 0);
        sets("they are called, and never come back", u, 1, 1, 0, 1);
        sets("they are called, and never come back", u, 2, 1, 0, 1);
    }

    private static void entryOfTheFirst() {
        terms("ENTRY of FUNCTION 0 has 0.");
        Used u = with(60, 1, 1, 1, 1, 1, 1, 1, 1);
        is("of 0", u.set(false, 0, 0), 1);
        for (int f = 1; f < 8; f++) {
            is("of " + f, u.set(false, f, 0), 0);
            is("MAY of " + f, u.may(false, f, 0), 0);
        }
    }

    private static void mayOfTheFirstInstruction() {
        terms("MAY of INSTRUCTION 0 has ENTRY of its FUNCTION.");
        Used u = with(3, 3, 1);
        u.way(0, 0, 1);
        u.way(1, 1, 2);
        code(u, 0, CALL, 1, HOST, 0, JUMP, 0);
        u.code(1, 0, RETURN, 0);
        is("ENTRY of 0 has 0 alone", u.set(false, 0, 0), 1);
        is("MAY has what comes back too", u.may(false, 0, 0), 3);
        is("ENTRY of 1", u.set(false, 1, 0), 3);
        is("MAY of 1", u.may(false, 1, 0), 3);
    }

    private static void entryOfCalls() {
        terms("ENTRY of f has MAY of each CALL f.");
        Used u = with(60, 200, 1, 1, 1, 1, 1, 1, 1);
        u.way(0, 0, 59);
        u.way(0, 59, 58);
        code(u, 0, TEST, 198, HOST, 0, TEST, 199, RETURN, 0);
        is("no CALL", u.set(false, 7, 0), 0);
        u.code(0, 199, CALL, 7);
        u.code(0, 198, RETURN, 0);
        is("the last one", u.set(false, 7, 0), 1L << 59);
        u.code(0, 198, CALL, 7);
        is("two of them", u.set(false, 7, 0), 1 | 1L << 59);
        u.code(0, 4, CALL, 7);
        is("one that is not reached", u.set(false, 7, 0), 1 | 1L << 59);
        u.code(7, 0, CALL, 7);
        is("its own", u.set(false, 7, 0), 1 | 1L << 59);
        u.code(7, 0, CALL, 0);
        is("both call each other, so it gets more", u.set(false, 7, 0), 1 | 1L << 59 | 1L << 58);
        is("and FUNCTION 0 likewise", u.set(false, 0, 0), 1 | 1L << 59 | 1L << 58);
    }

    private static void afterGuardAndHost() {
        terms("of GUARD c, and of HOST c that is not GUARDED, all STATES to which WAYS of c go from"
                + " one of its MAY");
        Used u = with(60, 3);
        u.way(0, 0, 59);
        u.way(0, 0, NONE);
        u.way(0, 59, 58);
        code(u, 0, GUARD, 0, HOST, 0, PLAIN, 0);
        mays("GUARDED", u, false, 0, 1, 1L << 59, 1L << 59);
        u.code(0, 2, TEST, 1);
        mays("not GUARDED", u, false, 0, 1, 1L << 59 | 1L << 58, 1L << 58);
        code(u, 0, HOST, 0, HOST, 0, PLAIN, 0);
        mays("no GUARD", u, false, 0, 1, 1L << 59, 1L << 58);
    }

    private static void afterCall() {
        terms("of CALL f EXIT of f, if its MAY has one and there is f, else nothing");
        Used u = with(2, 4, 2);
        u.way(0, 0, 1);
        code(u, 0, CALL, 1, RETURN, 0, CALL, 1, PLAIN, 0);
        code(u, 1, HOST, 0, RETURN, 0);
        mays("the second is not reached", u, false, 0, 1, 2, 0, 0);
        u.code(0, 0, TEST, 2);
        mays("it is reached", u, false, 0, 1, 1, 1, 2);
        u.code(0, 2, CALL, 2);
        mays("it is not there", u, false, 0, 1, 1, 1, 0);
        u.code(0, 2, CALL, 1);
        u.code(1, 1, THROW, 0);
        mays("EXIT is nothing", u, false, 0, 1, 1, 1, 0);
    }

    private static void exitOfReturns() {
        terms("EXIT of a FUNCTION has MAY of each RETURN of it.");
        Used u = with(60, 200);
        u.way(0, 0, 59);
        is("none", u.set(false, 0, 1), 0);
        u.code(0, 199, RETURN, 0);
        is("the last one", u.set(false, 0, 1), 1);
        u.code(0, 0, TEST, 199);
        u.code(0, 1, HOST, 0);
        u.code(0, 2, RETURN, 0);
        is("two of them", u.set(false, 0, 1), 1 | 1L << 59);
        u.code(0, 0, RETURN, 0);
        is("the first one, and two that are not reached", u.set(false, 0, 1), 1);
    }

    private static void allOfMayAndAfter() {
        terms("ALL of a FUNCTION has MAY and AFTER of all its INSTRUCTIONS");
        Used u = with(60, 200);
        u.way(0, 0, 59);
        is("all PLAIN", u.set(false, 0, 2), 1);
        u.code(0, 199, HOST, 0);
        is("AFTER of the last one", u.set(false, 0, 2), 1 | 1L << 59);
        u.code(0, 0, THROW, 0);
        is("not reached", u.set(false, 0, 2), 1);
        Used none = with(60, 1, 1);
        is("never called", none.set(false, 1, 2), 0);
    }

    private static void allOfCalled() {
        terms("and ALL of f for each CALL f whose MAY has one");
        Used u = with(3, 3, 2);
        u.way(0, 0, 1);
        u.way(0, 1, 2);
        code(u, 0, CALL, 1, PLAIN, 0, CALL, 1);
        code(u, 1, HOST, 0, THROW, 0);
        sets("reached", u, 0, 1, 0, 3);
        sets("reached", u, 1, 1, 0, 3);
        code(u, 0, CALL, 0, RETURN, 0, CALL, 1);
        sets("not reached", u, 0, 1, 0, 1);
        sets("not reached", u, 1, 0, 0, 0);
    }

    private static void handlersInRange() {
        terms("(FROM to before TO)");
        for (int kind : new int[] {CALL, THROW, RISK}) {
            for (int from = 0; from < 4; from++) {
                for (int to = from + 1; to <= 4; to++) {
                    Used u = with(2, 6);
                    code(u, 0, TEST, 2, RETURN, 0, kind, kind == CALL ? 7 : 0, RETURN, 0);
                    u.handler(0, from, to, 5);
                    boolean in = from <= 2 && 2 < to;
                    is("KIND " + kind + " in " + from + " to " + to,
                            u.may(false, 0, 5), in ? 1 : 0);
                }
            }
        }
        for (int kind : new int[] {PLAIN, JUMP, TEST, HOST, GUARD, RETURN}) {
            Used u = with(2, 4);
            code(u, 0, kind, kind == JUMP || kind == TEST ? 1 : 0, RETURN, 0);
            u.handler(0, 0, 4, 3);
            is("KIND " + kind + " in the range", u.may(false, 0, 3), 0);
        }
        Used last = with(1, 200);
        last.code(0, 0, TEST, 199);
        last.code(0, 1, RETURN, 0);
        last.code(0, 199, THROW, 0);
        last.handler(0, 0, 199, 198);
        is("TO at the last one", last.may(false, 0, 198), 0);
        last.handler(0, 199, 200, 198);
        is("TO behind the last one", last.may(false, 0, 198), 1);
    }

    private static void handlersOfCalls() {
        terms("and, if it is CALL f and its MAY has one, ALL of f");
        Used u = with(3, 4, 2);
        u.way(0, 0, 1);
        u.way(0, 1, 2);
        code(u, 0, CALL, 1, RETURN, 0, CALL, 1, PLAIN, 0);
        code(u, 1, HOST, 0, THROW, 0);
        u.handler(0, 2, 3, 3);
        mays("not reached", u, false, 0, 1, 0, 0, 0);
        u.handler(0, 0, 1, 3);
        mays("reached", u, false, 0, 1, 0, 0, 3);
        u.code(0, 0, CALL, 2);
        mays("one that is not there", u, false, 0, 1, 0, 0, 1);
    }

    private static void needsAlways() {
        terms("HOST c NEEDS a GUARD if c is told to need one always");
        Used u = with(1, 3);
        u.way(15, 0, 0);
        code(u, 0, HOST, 15, RETURN, 0, HOST, 15);
        is("reached, not told", u.of(false, 0, 0, 3), 0);
        is("not reached, not told", u.of(false, 0, 2, 3), 0);
        u.always(14, true);
        is("another is told", u.of(false, 0, 0, 3), 0);
        u.always(15, true);
        is("reached, told", u.of(false, 0, 0, 3), 1);
        is("not reached, told", u.of(false, 0, 2, 3), 1);
        is("no HOST", u.of(false, 0, 1, 3), 0);
        u.code(0, 1, GUARD, 15);
        is("a GUARD", u.of(false, 0, 1, 3), 0);
        is("one that is GUARDED", u.of(false, 0, 2, 3), 1);
    }

    private static void needsByWays() {
        terms("or a STATE of its MAY has a WAY of c to nowhere, or to another STATE, or no WAY"
                + " of c");
        for (int last : new int[] {0, 1, 31, 32, 59}) {
            List<Consumer<Used>> needs = List.of(
                    u -> { },
                    u -> u.way(2, last, NONE),
                    u -> u.way(2, last, last == 0 ? 1 : 0),
                    u -> {
                        u.way(2, last, last);
                        u.way(2, last, NONE);
                    },
                    u -> {
                        u.way(2, last, last);
                        u.way(2, last, last == 59 ? 58 : 59);
                    });
            for (Consumer<Used> ways : needs) {
                Used u = with(60, 2);
                u.way(1, 0, last);
                code(u, 0, HOST, 1, HOST, 2);
                ways.accept(u);
                is("STATE " + last, u.of(false, 0, 1, 3), 1);
            }
            Used u = with(60, 2);
            u.way(1, 0, last);
            u.way(2, last, last);
            code(u, 0, HOST, 1, HOST, 2);
            is("STATE " + last + " to itself alone", u.of(false, 0, 1, 3), 0);
            u.code(0, 0, RETURN, 0);
            is("no MAY", u.of(false, 0, 1, 3), 0);
        }
    }

    private static void changesNothing() {
        terms("What answers false, NONE or below 0 changes nothing but what is said.");
        // One after another: what one leaves behind would show in the next.
        Consumer<Used> all = u -> {
            u.begin(0);
            u.begin(61);
            u.way(16, 0, 0);
            u.way(1, 3, 0);
            u.way(1, 0, 3);
            u.way(1, 0, 2);
            u.always(16, true);
            u.always(15, true);
            u.function(0);
            u.function(201);
            u.code(2, 0, RISK, 0);
            u.code(0, 5, RISK, 0);
            u.code(0, 0, 9, 0);
            u.code(0, 0, RISK, 1);
            u.handler(2, 0, 1, 0);
            u.handler(0, 1, 1, 0);
            u.handler(0, 0, 6, 0);
            u.handler(0, 0, 1, 5);
            u.of(true, 2, 0, 0);
            u.of(true, 0, 6, 0);
            u.of(true, 0, 0, 5);
            u.may(true, 0, 6);
            u.set(true, 0, 3);
            u.size(true, 0, 5);
            u.range(true, 0, 1, 0);
            u.goes(16, 0, 0);
            u.look(7);
        };
        Consumer<Used> forged = Edges::somethingForged;
        Consumer<Used> plain = Edges::something;
        same("all of them, with something FORGED", forged.andThen(all), forged);
        same("all of them, with nothing FORGED",
                plain.andThen(all).andThen(u -> u.take()).andThen(u -> u.certify(true)), plain);
        same("and what is FORGED then", plain.andThen(all).andThen(Used::forge), forged);
        Consumer<Used> tooLong = u -> {
            u.function(200);
            u.code(0, 0, HOST, 0);
        };
        same("forge, -2", tooLong.andThen(Used::forge), tooLong);
        whatIsTakenShows();
    }

    /** Else it would say nothing that no change shows. */
    private static void whatIsTakenShows() {
        List<Consumer<Used>> changes = List.of(
                u -> u.begin(4), u -> u.way(0, 2, NONE), u -> u.always(0, true),
                u -> u.function(1), u -> u.code(1, 3, RISK, 0), u -> u.handler(1, 3, 4, 0),
                u -> u.forge());
        Consumer<Used> plain = Edges::something;
        for (int k = 0; k < changes.size(); k++) {
            differ("change " + k + " shows", plain.andThen(changes.get(k)), plain);
        }
        differ("take shows", u -> {
            somethingForged(u);
            u.take();
        }, Edges::somethingForged);
    }

    /** Dear calls, up to the last one that is promised, and that none behind it throws. */
    private static void fiveHundredAndTwelveCalls() {
        part("What it is", "An object is used for at most 512 calls after it has been made;"
                + " what later calls answer is free.");
        Used u = with(60);
        for (int s = 0; s < 59; s++) {
            u.way(0, s, s + 1);
        }
        for (int f = 0; f < 8; f++) {
            u.function(199);
            code(u, f, HOST, 0, TEST, 3, CALL, f + 1 & 7, TEST, 0, RETURN, 0);
        }
        long all = (1L << 60) - 1;
        // What comes back to FUNCTION 7 from FUNCTION 0 is all but STATE 0.
        while (u.left() >= 4) {
            is("code", u.code(7, 198, u.left() % 8 == 0 ? RISK : THROW, 0), true);
            is("forge", u.forge(), 8);
            is("MAY of FUNCTION 7, FORGED", u.may(true, 7, 0), all & -2L);
            is("ALL of FUNCTION 0", u.set(false, 0, 2), all);
        }
        is("calls that are left", u.left(), 0);
        // What later calls answer is free; that they answer is not.
        GuardFlow g = new GuardFlow();
        for (int n = 0; n < 1000; n++) {
            g.begin(60);
            g.function(199);
            g.code(0, 198, HOST, n % 16);
            g.handler(0, 0, 199, 198);
            g.forge();
            g.take();
        }
    }
}

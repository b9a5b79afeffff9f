import java.util.function.Consumer;

/** The edges of promises 1 to 4 and 16: a new object, begin, way, always, goes. */
public final class EdgesOfTableTest extends Edges {
    public static void main(String[] args) {
        newOneState();
        newNoWays();
        newNoFunctions();
        beginSoMany();
        beginNoWays();
        beginNoneAlways();
        beginNoFunctions();
        beginTooFewOrTooMany();
        wayToAState();
        wayToNowhere();
        wayOfNoSuchCall();
        wayOfNoSuchState();
        wayThatIsThere();
        wayAndWhatWasForged();
        alwaysOrNot();
        alwaysOfNoneSuch();
        alwaysAsItIs();
        alwaysAndWhatWasForged();
        goesOrNot();
        goesToNowhere();
        goesOfNoneSuch();
        end();
    }

    private static void nothing(Used u) {
    }

    private static void newOneState() {
        promise(1, "One STATE");
        Used u = new Used();
        is("STATES", u.look(0), 1);
        is("way from the last STATE to it", u.way(0, 0, 0), true);
        is("way from the first that is none", u.way(0, 1, 0), false);
        is("way to the first that is none", u.way(0, 0, 1), false);
        same("a new object is as after begin(1)", EdgesOfTableTest::nothing, b -> b.begin(1));
    }

    private static void newNoWays() {
        promise(1, "no WAYS");
        Used u = new Used();
        is("WAYS", u.look(1), 0);
        for (int call = 0; call <= 15; call++) {
            is("goes(" + call + ", 0, 0)", u.goes(call, 0, 0), false);
            is("goes(" + call + ", 0, NONE)", u.goes(call, 0, NONE), false);
        }
    }

    private static void newNoFunctions() {
        promise(1, "no FUNCTIONS");
        Used u = new Used();
        is("FUNCTIONS", u.look(2), 0);
        is("FORGED", u.look(3), 0);
        is("INSTRUCTIONS", u.look(4), 0);
        is("certify", u.certify(false), 0);
        for (int f = 0; f < 8; f++) {
            is("size of " + f, u.size(false, f, 0), NONE);
            is("set of " + f, u.set(false, f, 0), 0);
            is("code of " + f, u.code(f, 0, PLAIN, 0), false);
            is("handler of " + f, u.handler(f, 0, 1, 0), false);
        }
        is("the first FUNCTION's number", u.function(1), 0);
    }

    private static void beginSoMany() {
        promise(2, "So many STATES");
        for (int states : new int[] {1, 2, 31, 32, 33, 59, 60}) {
            Used u = new Used();
            is("begin(" + states + ")", u.begin(states), true);
            is("STATES", u.look(0), states);
            is("way to the last one", u.way(0, states - 1, states - 1), true);
            is("way to one more", u.way(0, 0, states), false);
            is("way from one more", u.way(0, states, 0), false);
            is("as many again", u.begin(states), true);
            is("STATES", u.look(0), states);
            is("WAYS", u.look(1), 0);
        }
        Used u = new Used();
        is("begin(60)", u.begin(60), true);
        is("then fewer", u.begin(1), true);
        is("STATES", u.look(0), 1);
        is("way to one that was there", u.way(0, 0, 1), false);
    }

    private static void beginNoWays() {
        promise(2, "no WAYS");
        Used u = new Used();
        u.begin(60);
        int[] ends = {0, 31, 32, 59};
        for (int from : ends) {
            for (int to : ends) {
                u.way(0, from, to);
                u.way(15, from, to);
            }
            u.way(0, from, NONE);
            u.way(15, from, NONE);
        }
        is("WAYS", u.look(1), 40);
        is("begin(60)", u.begin(60), true);
        is("WAYS", u.look(1), 0);
        for (int from : ends) {
            for (int to : ends) {
                is("goes(0, " + from + ", " + to + ")", u.goes(0, from, to), false);
                is("goes(15, " + from + ", " + to + ")", u.goes(15, from, to), false);
            }
            is("goes(0, " + from + ", NONE)", u.goes(0, from, NONE), false);
            is("goes(15, " + from + ", NONE)", u.goes(15, from, NONE), false);
        }
        is("way(0, 0, 0) anew", u.way(0, 0, 0), true);
    }

    private static void beginNoneAlways() {
        promise(2, "no CALL needs a GUARD always");
        Used u = new Used();
        for (int call = 0; call <= 15; call++) {
            is("always(" + call + ", true)", u.always(call, true), true);
        }
        is("always, all of them", u.look(6), 16);
        is("begin(1)", u.begin(1), true);
        is("always, none", u.look(6), 0);
        for (int call = 0; call <= 15; call++) {
            is("always(" + call + ", false), so already", u.always(call, false), false);
        }
    }

    private static void beginNoFunctions() {
        promise(2, "no FUNCTIONS: true");
        Used u = new Used();
        for (int f = 0; f < 8; f++) {
            is("function", u.function(f == 7 ? 200 : 1), f);
        }
        is("begin(1)", u.begin(1), true);
        is("FUNCTIONS", u.look(2), 0);
        is("INSTRUCTIONS", u.look(4), 0);
        for (int f = 0; f < 8; f++) {
            is("size of " + f, u.size(false, f, 0), NONE);
        }
        for (int f = 0; f < 8; f++) {
            is("function again", u.function(1), f);
        }
        is("a ninth", u.function(1), NONE);
        same("begin leaves nothing of what was",
                b -> {
                    somethingForged(b);
                    b.begin(3);
                },
                b -> b.begin(3));
        same("nor in FUNCTIONS that come then",
                b -> {
                    somethingForged(b);
                    b.begin(3);
                    b.function(6);
                    b.function(6);
                },
                b -> {
                    b.begin(3);
                    b.function(6);
                    b.function(6);
                });
    }

    private static void beginTooFewOrTooMany() {
        promise(2, "false if there can not be so many");
        is("begin(1)", made(Edges::somethingForged).begin(1), true);
        is("begin(60)", made(Edges::somethingForged).begin(60), true);
        for (int states : beside(1, 60)) {
            refused("begin(" + states + ")", Edges::somethingForged, u -> u.begin(states));
            refused("begin(" + states + ") of a new one", u -> { }, u -> u.begin(states));
        }
        refused("begin(0)", Edges::something, u -> u.begin(0));
        refused("begin(61)", Edges::something, u -> u.begin(61));
    }

    private static void wayToAState() {
        promise(3, "A WAY of a CALL OUTSIDE, to a STATE, or to nowhere (NONE): true");
        Used u = new Used();
        u.begin(60);
        int ways = 0;
        for (int call : new int[] {0, 15}) {
            for (int from : new int[] {0, 31, 32, 59}) {
                for (int to : new int[] {0, 31, 32, 59}) {
                    String way = "(" + call + ", " + from + ", " + to + ")";
                    is("goes" + way + " before", u.goes(call, from, to), false);
                    is("way" + way, u.way(call, from, to), true);
                    is("goes" + way, u.goes(call, from, to), true);
                    ways++;
                    is("WAYS", u.look(1), ways);
                }
            }
        }
        is("no other CALL has it", u.goes(1, 0, 0), false);
        is("no other CALL has it", u.goes(14, 59, 59), false);
    }

    private static void wayToNowhere() {
        promise(3, "or to nowhere (NONE): true");
        Used u = new Used();
        is("way(0, 0, NONE), one STATE", u.way(0, 0, NONE), true);
        is("goes(0, 0, 0)", u.goes(0, 0, 0), false);
        u.begin(60);
        is("way(15, 59, NONE)", u.way(15, 59, NONE), true);
        is("goes(15, 59, NONE)", u.goes(15, 59, NONE), true);
        is("goes(15, 59, 59)", u.goes(15, 59, 59), false);
        is("goes(15, 0, NONE)", u.goes(15, 0, NONE), false);
        is("WAYS", u.look(1), 1);
    }

    private static void wayOfNoSuchCall() {
        promise(3, "false if there is no such CALL or STATE");
        is("way(0, 1, 1)", made(Edges::somethingForged).way(0, 1, 1), true);
        is("way(15, 1, 1)", made(Edges::somethingForged).way(15, 1, 1), true);
        for (int call : beside(0, 15)) {
            refused("way(" + call + ", 1, 1)", Edges::somethingForged, u -> u.way(call, 1, 1));
            refused("way(" + call + ", 0, NONE)", Edges::somethingForged,
                    u -> u.way(call, 0, NONE));
        }
    }

    private static void wayOfNoSuchState() {
        promise(3, "no such CALL or STATE");
        for (int[] w : new int[][] {{0, 0}, {2, 0}, {0, NONE}, {2, NONE}, {0, 2}, {2, 2}}) {
            is("way(0, " + w[0] + ", " + w[1] + ")",
                    made(Edges::somethingForged).way(0, w[0], w[1]), true);
        }
        for (int from : beside(0, 2)) {
            refused("way(0, " + from + ", 0)", Edges::somethingForged, u -> u.way(0, from, 0));
            refused("way(0, " + from + ", NONE)", Edges::somethingForged,
                    u -> u.way(0, from, NONE));
        }
        for (int to : beside(NONE, 2)) {
            refused("way(0, 1, " + to + ")", Edges::somethingForged, u -> u.way(0, 1, to));
        }
        // With all 60 there is none left over in the rows: one more would be the next CALL's.
        for (int state : new int[] {60, 61, 63, 64, 119, 120}) {
            refused("way(0, " + state + ", 0) of 60", u -> u.begin(60), u -> u.way(0, state, 0));
            refused("way(0, 0, " + state + ") of 60", u -> u.begin(60), u -> u.way(0, 0, state));
        }
        refused("way(1, -60, 0) of 60", u -> u.begin(60), u -> u.way(1, -60, 0));
        refused("way(-1, 60, 0) of 60", u -> u.begin(60), u -> u.way(-1, 60, 0));
        refused("way(16, -1, 0) of 60", u -> u.begin(60), u -> u.way(16, -1, 0));
    }

    private static void wayThatIsThere() {
        promise(3, "or that WAY is there");
        int[][] there = {{1, 0, 2}, {1, 2, NONE}, {2, 0, 0}, {2, 2, 2}};
        for (int[] w : there) {
            String way = "way(" + w[0] + ", " + w[1] + ", " + w[2] + ")";
            refused(way, Edges::somethingForged, u -> u.way(w[0], w[1], w[2]));
        }
        Consumer<Used> last = u -> {
            u.begin(60);
            u.way(15, 59, 59);
            u.way(15, 59, NONE);
        };
        refused("way(15, 59, 59)", last, u -> u.way(15, 59, 59));
        refused("way(15, 59, NONE)", last, u -> u.way(15, 59, NONE));
        Used u = made(last);
        is("another one from there", u.way(15, 59, 58), true);
        is("another one to there", u.way(15, 58, 59), true);
        is("that of another CALL", u.way(14, 59, 59), true);
        is("WAYS", u.look(1), 5);
    }

    private static void wayAndWhatWasForged() {
        promise(3, "What was FORGED goes, if true.");
        Used u = made(Edges::somethingForged);
        is("FORGED", u.look(3), 1);
        is("way, true", u.way(0, 1, NONE), true);
        is("FORGED", u.look(3), 0);
        is("FORGED INSTRUCTIONS", u.look(5), NONE);
        is("take", u.take(), false);
        is("size", u.size(true, 0, 0), NONE);
        is("the FUNCTIONS stay", u.look(4), 9);
        Used v = made(Edges::somethingForged);
        is("way, false", v.way(1, 0, 2), false);
        is("FORGED", v.look(3), 1);
        is("take", v.take(), true);
    }

    private static void alwaysOrNot() {
        promise(4, "A CALL OUTSIDE needs a GUARD always, or not (as at first): true");
        for (int call : new int[] {0, 1, 14, 15}) {
            Used u = new Used();
            u.way(call, 0, 0);
            u.function(2);
            u.code(0, 1, HOST, call);
            is("needs one at first", u.of(false, 0, 1, 3), 0);
            is("always(" + call + ", true)", u.always(call, true), true);
            is("needs one", u.of(false, 0, 1, 3), 1);
            is("told", u.look(6), 1);
            is("always(" + call + ", false)", u.always(call, false), true);
            is("needs one no more", u.of(false, 0, 1, 3), 0);
            is("told", u.look(6), 0);
        }
        Used u = new Used();
        for (int call = 0; call <= 15; call++) {
            is("always(" + call + ", true)", u.always(call, true), true);
            is("told", u.look(6), call + 1);
        }
        for (int call = 0; call <= 15; call++) {
            is("always(" + call + ", false)", u.always(call, false), true);
            is("told", u.look(6), 15 - call);
        }
    }

    private static void alwaysOfNoneSuch() {
        promise(4, "false if there is none such");
        is("always(0, true)", made(Edges::somethingForged).always(0, true), true);
        is("always(15, false)", made(Edges::somethingForged).always(15, false), true);
        for (int call : beside(0, 15)) {
            refused("always(" + call + ", true)", Edges::somethingForged,
                    u -> u.always(call, true));
            refused("always(" + call + ", false)", Edges::somethingForged,
                    u -> u.always(call, false));
        }
    }

    private static void alwaysAsItIs() {
        promise(4, "or it is so");
        for (int call = 0; call <= 15; call++) {
            int c = call;
            refused("always(" + c + ", " + (c == 15) + ")", Edges::somethingForged,
                    u -> u.always(c, c == 15));
        }
        Used u = new Used();
        is("always(0, true)", u.always(0, true), true);
        is("always(0, true) again", u.always(0, true), false);
        is("always(0, false)", u.always(0, false), true);
        is("always(0, false) again", u.always(0, false), false);
    }

    private static void alwaysAndWhatWasForged() {
        promise(4, "What was FORGED goes, if true.");
        for (boolean on : new boolean[] {true, false}) {
            int call = on ? 0 : 15;
            Used u = made(Edges::somethingForged);
            is("FORGED", u.look(3), 1);
            is("always, false", u.always(call, !on), false);
            is("FORGED", u.look(3), 1);
            is("always, true", u.always(call, on), true);
            is("FORGED", u.look(3), 0);
            is("FORGED INSTRUCTIONS", u.look(5), NONE);
            is("take", u.take(), false);
        }
    }

    private static void goesOrNot() {
        promise(16, "Whether a WAY is there");
        Used u = new Used();
        u.begin(60);
        u.way(0, 0, 59);
        u.way(15, 59, 0);
        is("goes(0, 0, 59)", u.goes(0, 0, 59), true);
        is("goes(15, 59, 0)", u.goes(15, 59, 0), true);
        is("goes(0, 59, 0)", u.goes(0, 59, 0), false);
        is("goes(15, 0, 59)", u.goes(15, 0, 59), false);
        is("goes(0, 0, 58)", u.goes(0, 0, 58), false);
        is("goes(0, 1, 59)", u.goes(0, 1, 59), false);
        is("goes(1, 0, 59)", u.goes(1, 0, 59), false);
    }

    private static void goesToNowhere() {
        promise(16, "(to NONE: to nowhere)");
        Used u = new Used();
        is("goes(0, 0, NONE), no WAY at all", u.goes(0, 0, NONE), false);
        u.begin(60);
        u.way(0, 0, NONE);
        u.way(15, 59, NONE);
        is("goes(0, 0, NONE)", u.goes(0, 0, NONE), true);
        is("goes(15, 59, NONE)", u.goes(15, 59, NONE), true);
        is("goes(0, 59, NONE)", u.goes(0, 59, NONE), false);
        for (int to = 0; to < 60; to++) {
            is("goes(15, 59, " + to + ")", u.goes(15, 59, to), false);
        }
    }

    private static void goesOfNoneSuch() {
        promise(16, "false if there are none such");
        Consumer<Used> all = b -> {
            b.begin(2);
            for (int call = 0; call <= 15; call++) {
                for (int from = 0; from < 2; from++) {
                    for (int to = -1; to < 2; to++) {
                        b.way(call, from, to);
                    }
                }
            }
            b.forge();
        };
        for (int call : new int[] {0, 15}) {
            for (int from : new int[] {0, 1}) {
                for (int to : new int[] {NONE, 0, 1}) {
                    is("goes(" + call + ", " + from + ", " + to + ")",
                            made(all).goes(call, from, to), true);
                }
            }
        }
        for (int call : beside(0, 15)) {
            refused("goes(" + call + ", 0, 0)", all, u -> u.goes(call, 0, 0));
            refused("goes(" + call + ", 1, NONE)", all, u -> u.goes(call, 1, NONE));
        }
        for (int from : beside(0, 1)) {
            refused("goes(0, " + from + ", 0)", all, u -> u.goes(0, from, 0));
            refused("goes(15, " + from + ", NONE)", all, u -> u.goes(15, from, NONE));
        }
        for (int to : beside(NONE, 1)) {
            refused("goes(0, 0, " + to + ")", all, u -> u.goes(0, 0, to));
        }
        Used u = made(all);
        // Bits of a long come round again after 64, those of an int after 32.
        for (int to : new int[] {31, 32, 33, 59, 60, 61, 63, 64, 65, 124, 128}) {
            is("goes(0, 0, " + to + ")", u.goes(0, 0, to), false);
            is("goes(0, " + to + ", 0)", u.goes(0, to, 0), false);
        }
        Used v = new Used();
        v.begin(60);
        v.way(1, 0, 5);
        is("goes(0, 60, 5) is not that of the next CALL", v.goes(0, 60, 5), false);
    }
}

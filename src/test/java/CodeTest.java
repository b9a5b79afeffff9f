/** Promises 5 to 7, 14, 15 and 17: function, code, handler, size, range, look. */
public final class CodeTest {
    private static final int NONE = GuardFlow.NONE;
    private static final int MIN = Integer.MIN_VALUE;
    private static final int MAX = Integer.MAX_VALUE;
    private static final Due due = new Due();

    public static void main(String[] args) {
        functions();
        kindsAndNumbers();
        wrongCode();
        handlers();
        sizes();
        ranges();
        looks();
        whatForgedGoes();
        due.end();
    }

    private static void functions() {
        GuardFlow g = new GuardFlow();
        due.is("function(0)", g.function(0), NONE);
        due.is("function(-1)", g.function(-1), NONE);
        due.is("function(201)", g.function(201), NONE);
        due.is("function(min)", g.function(MIN), NONE);
        due.is("function(max)", g.function(MAX), NONE);
        due.is("FUNCTIONS", g.look(2), 0);
        for (int f = 0; f < 8; f++) {
            due.is("function " + f, g.function(f == 0 ? 200 : f), f);
        }
        due.is("ninth function", g.function(1), NONE);
        due.is("FUNCTIONS", g.look(2), 8);
        due.is("INSTRUCTIONS", g.look(4), 200 + 28);
        for (int i = 0; i < 200; i++) {
            due.is("KIND of " + i, g.of(false, 0, i, 0), 0);
            due.is("number of " + i, g.of(false, 0, i, 1), 0);
        }
    }

    private static void kindsAndNumbers() {
        GuardFlow g = new GuardFlow();
        g.function(5);
        int[] most = {0, 4, 4, 7, 15, 15, 0, 0, 0};
        for (int kind = 0; kind <= 8; kind++) {
            for (int number : new int[] {MIN, -1, 0, 1, 3, 4, 5, 7, 8, 15, 16, 200, MAX}) {
                boolean can = number >= 0 && number <= most[kind];
                String told = "code(0, 2, " + kind + ", " + number + ")";
                g.code(0, 2, 8, 0);
                due.is(told, g.code(0, 2, kind, number), can);
                due.is(told + ": KIND", g.of(false, 0, 2, 0), can ? kind : 8);
                due.is(told + ": number", g.of(false, 0, 2, 1), can ? number : 0);
            }
        }
        due.is("the one before is PLAIN", g.of(false, 0, 1, 0), 0);
        due.is("the one behind is PLAIN", g.of(false, 0, 3, 0), 0);
    }

    private static void wrongCode() {
        GuardFlow g = new GuardFlow();
        due.is("code without FUNCTIONS", g.code(0, 0, 0, 0), false);
        g.function(5);
        int[][] wrong = {
            {1, 0, 0, 0}, {-1, 0, 0, 0}, {8, 0, 0, 0}, {MIN, 0, 0, 0}, {MAX, 0, 0, 0},
            {0, 5, 0, 0}, {0, -1, 0, 0}, {0, MIN, 0, 0}, {0, MAX, 0, 0}, {0, 200, 0, 0},
            {0, 0, 9, 0}, {0, 0, -1, 0}, {0, 0, MIN, 0}, {0, 0, MAX, 0},
        };
        for (int[] w : wrong) {
            String told = "code(" + w[0] + ", " + w[1] + ", " + w[2] + ", " + w[3] + ")";
            due.is(told, g.code(w[0], w[1], w[2], w[3]), false);
        }
    }

    private static void handlers() {
        GuardFlow g = new GuardFlow();
        due.is("handler without FUNCTIONS", g.handler(0, 0, 1, 0), false);
        g.function(5);
        int[][] wrong = {
            {1, 0, 1, 0}, {-1, 0, 1, 0}, {0, -1, 1, 0}, {0, 1, 1, 0}, {0, 2, 1, 0}, {0, 0, 6, 0},
            {0, 5, 5, 0}, {0, 5, 6, 0}, {0, 0, 1, 5}, {0, 0, 1, -1}, {0, MIN, MAX, 0},
            {0, 0, 0, 0}, {0, MIN, 1, 0}, {0, 0, MAX, 0}, {0, 0, 1, MIN}, {0, 0, 1, MAX},
        };
        for (int[] w : wrong) {
            String told = "handler(" + w[0] + ", " + w[1] + ", " + w[2] + ", " + w[3] + ")";
            due.is(told, g.handler(w[0], w[1], w[2], w[3]), false);
        }
        due.is("no HANDLER yet", g.size(false, 0, 1), 0);
        due.is("the widest", g.handler(0, 0, 5, 4), true);
        due.is("the last one", g.handler(0, 4, 5, 0), true);
        for (int k = 2; k < 6; k++) {
            due.is("HANDLER " + k, g.handler(0, 0, 5, 4), true);
        }
        due.is("a seventh", g.handler(0, 0, 5, 4), false);
        due.is("six HANDLERS", g.size(false, 0, 1), 6);
        g.function(5);
        due.is("of another FUNCTION", g.handler(1, 0, 5, 4), true);
    }

    private static void sizes() {
        GuardFlow g = new GuardFlow();
        g.function(6);
        g.function(3);
        g.code(0, 0, 4, 1);
        g.code(0, 1, 5, 2);
        g.code(0, 2, 4, 2);
        g.code(0, 3, 4, 3);
        g.handler(0, 0, 1, 0);
        g.handler(0, 0, 2, 0);
        due.is("INSTRUCTIONS", g.size(false, 0, 0), 6);
        due.is("HANDLERS", g.size(false, 0, 1), 2);
        due.is("HOSTS", g.size(false, 0, 2), 3);
        due.is("GUARDS", g.size(false, 0, 3), 1);
        due.is("reached", g.size(false, 0, 4), 1);
        due.is("INSTRUCTIONS of 1", g.size(false, 1, 0), 3);
        due.is("HOSTS of 1", g.size(false, 1, 2), 0);
        due.is("reached of 1", g.size(false, 1, 4), 0);
        g.way(1, 0, 0);
        due.is("reached with a WAY", g.size(false, 0, 4), 2);
        due.is("what 5", g.size(false, 0, 5), NONE);
        due.is("what -1", g.size(false, 0, -1), NONE);
        due.is("FUNCTION 2", g.size(false, 2, 0), NONE);
        due.is("FUNCTION -1", g.size(false, -1, 0), NONE);
        due.is("nothing FORGED", g.size(true, 0, 0), NONE);
        g.always(3, true);
        g.forge();
        due.is("FORGED INSTRUCTIONS", g.size(true, 0, 0), 7);
        due.is("FORGED HANDLERS", g.size(true, 0, 1), 2);
        due.is("FORGED HOSTS", g.size(true, 0, 2), 3);
        due.is("FORGED GUARDS", g.size(true, 0, 3), 2);
        due.is("FORGED FUNCTION 2", g.size(true, 2, 0), NONE);
    }

    private static void ranges() {
        GuardFlow g = new GuardFlow();
        g.function(5);
        g.handler(0, 1, 4, 2);
        g.handler(0, 0, 5, 3);
        due.is("FROM of 0", g.range(false, 0, 0, 0), 1);
        due.is("TO of 0", g.range(false, 0, 0, 1), 4);
        due.is("TARGET of 0", g.range(false, 0, 0, 2), 2);
        due.is("FROM of 1", g.range(false, 0, 1, 0), 0);
        due.is("TO of 1", g.range(false, 0, 1, 1), 5);
        due.is("TARGET of 1", g.range(false, 0, 1, 2), 3);
        due.is("what 3", g.range(false, 0, 0, 3), NONE);
        due.is("what -1", g.range(false, 0, 0, -1), NONE);
        due.is("HANDLER 2", g.range(false, 0, 2, 0), NONE);
        due.is("HANDLER -1", g.range(false, 0, -1, 0), NONE);
        due.is("HANDLER max", g.range(false, 0, MAX, 0), NONE);
        due.is("FUNCTION 1", g.range(false, 1, 0, 0), NONE);
        due.is("FUNCTION -1", g.range(false, -1, 0, 0), NONE);
        due.is("nothing FORGED", g.range(true, 0, 0, 0), NONE);
    }

    private static void looks() {
        GuardFlow g = new GuardFlow();
        g.begin(7);
        g.way(0, 6, 6);
        g.way(0, 6, NONE);
        g.function(9);
        g.function(2);
        g.code(0, 0, 4, 5);
        g.always(5, true);
        due.is("STATES", g.look(0), 7);
        due.is("WAYS", g.look(1), 2);
        due.is("FUNCTIONS", g.look(2), 2);
        due.is("FORGED", g.look(3), 0);
        due.is("INSTRUCTIONS", g.look(4), 11);
        due.is("FORGED INSTRUCTIONS", g.look(5), NONE);
        due.is("always", g.look(6), 1);
        due.is("forge", g.forge(), 1);
        due.is("FORGED now", g.look(3), 1);
        due.is("INSTRUCTIONS as before", g.look(4), 11);
        due.is("FORGED INSTRUCTIONS now", g.look(5), 12);
        for (int which : new int[] {MIN, -1, 7, 8, MAX}) {
            due.is("look(" + which + ")", g.look(which), NONE);
        }
    }

    private static void whatForgedGoes() {
        GuardFlow g = new GuardFlow();
        g.function(3);
        g.forge();
        due.is("refused function", g.function(0), NONE);
        due.is("refused code", g.code(0, 3, 0, 0), false);
        due.is("refused handler", g.handler(0, 0, 4, 0), false);
        due.is("these keep FORGED", g.look(3), 1);
        g.function(1);
        due.is("function: FORGED goes", g.look(3), 0);
        g.forge();
        due.is("code, the same again", g.code(0, 0, 0, 0), true);
        due.is("code: FORGED goes", g.look(3), 0);
        g.forge();
        g.handler(0, 0, 1, 0);
        due.is("handler: FORGED goes", g.look(3), 0);
    }
}

/** Promises 1 to 4 and 16: a new object, begin, way, always, goes; and what look says of them. */
public final class TableTest {
    private static final int NONE = GuardFlow.NONE;
    private static final Due due = new Due();

    public static void main(String[] args) {
        newObject();
        beginEdges();
        beginForgets();
        ways();
        wrongWays();
        mostStates();
        always();
        whatForgedGoes();
        due.end();
    }

    private static void newObject() {
        GuardFlow g = new GuardFlow();
        due.is("new: STATES", g.look(0), 1);
        due.is("new: WAYS", g.look(1), 0);
        due.is("new: FUNCTIONS", g.look(2), 0);
        due.is("new: FORGED", g.look(3), 0);
        due.is("new: INSTRUCTIONS", g.look(4), 0);
        due.is("new: FORGED INSTRUCTIONS", g.look(5), NONE);
        due.is("new: always", g.look(6), 0);
        due.is("new: way(0, 0, 0)", g.goes(0, 0, 0), false);
        due.is("new: take", g.take(), false);
        due.is("new: STATE 0 is there", g.way(15, 0, 0), true);
        due.is("new: STATE 1 is not", g.way(15, 0, 1), false);
    }

    private static void beginEdges() {
        GuardFlow g = new GuardFlow();
        due.is("begin(0)", g.begin(0), false);
        due.is("begin(-1)", g.begin(-1), false);
        due.is("begin(min)", g.begin(Integer.MIN_VALUE), false);
        due.is("begin(61)", g.begin(61), false);
        due.is("begin(max)", g.begin(Integer.MAX_VALUE), false);
        due.is("STATES after refused begins", g.look(0), 1);
        due.is("begin(60)", g.begin(60), true);
        due.is("STATES after begin(60)", g.look(0), 60);
        due.is("begin(1)", g.begin(1), true);
        due.is("STATES after begin(1)", g.look(0), 1);
    }

    private static void beginForgets() {
        GuardFlow g = full();
        due.is("refused begin", g.begin(61), false);
        due.is("refused begin keeps WAYS", g.look(1), 2);
        due.is("refused begin keeps FUNCTIONS", g.look(2), 1);
        due.is("refused begin keeps FORGED", g.look(3), 1);
        due.is("refused begin keeps always", g.look(6), 1);
        due.is("begin(3)", g.begin(3), true);
        due.is("begin: WAYS", g.look(1), 0);
        due.is("begin: goes", g.goes(1, 0, 2), false);
        due.is("begin: goes nowhere", g.goes(1, 2, NONE), false);
        due.is("begin: FUNCTIONS", g.look(2), 0);
        due.is("begin: FORGED", g.look(3), 0);
        due.is("begin: take", g.take(), false);
        due.is("begin: INSTRUCTIONS", g.look(4), 0);
        due.is("begin: always", g.look(6), 0);
        due.is("begin: always is off", g.always(1, false), false);
        due.is("begin: size", g.size(false, 0, 0), NONE);
        due.is("begin: function", g.function(4), 0);
        due.is("begin: PLAIN again", g.of(false, 0, 1, 0), 0);
        due.is("begin: number 0 again", g.of(false, 0, 1, 1), 0);
        due.is("begin: no HANDLER", g.size(false, 0, 1), 0);
    }

    private static GuardFlow full() {
        GuardFlow g = new GuardFlow();
        g.begin(3);
        g.way(1, 0, 2);
        g.way(1, 2, NONE);
        g.always(1, true);
        g.function(4);
        g.code(0, 1, 4, 1);
        g.handler(0, 0, 4, 2);
        g.forge();
        return g;
    }

    private static void ways() {
        GuardFlow g = new GuardFlow();
        g.begin(4);
        due.is("way(3, 1, 2)", g.way(3, 1, 2), true);
        due.is("way(3, 1, 2) again", g.way(3, 1, 2), false);
        due.is("way(3, 1, 3)", g.way(3, 1, 3), true);
        due.is("way(3, 1, NONE)", g.way(3, 1, NONE), true);
        due.is("way(3, 1, NONE) again", g.way(3, 1, NONE), false);
        due.is("way(3, 1, 1)", g.way(3, 1, 1), true);
        due.is("way(4, 1, 2)", g.way(4, 1, 2), true);
        due.is("WAYS", g.look(1), 5);
        due.is("goes(3, 1, 2)", g.goes(3, 1, 2), true);
        due.is("goes(3, 1, 0)", g.goes(3, 1, 0), false);
        due.is("goes(3, 1, NONE)", g.goes(3, 1, NONE), true);
        due.is("goes(4, 1, NONE)", g.goes(4, 1, NONE), false);
        due.is("goes(3, 2, 1)", g.goes(3, 2, 1), false);
    }

    private static void wrongWays() {
        GuardFlow g = new GuardFlow();
        g.begin(4);
        int[][] wrong = {
            {-1, 0, 0}, {16, 0, 0}, {Integer.MAX_VALUE, 0, 0}, {Integer.MIN_VALUE, 0, 0},
            {0, -1, 0}, {0, 4, 0}, {0, Integer.MAX_VALUE, 0}, {0, Integer.MIN_VALUE, 0},
            {0, 0, -2}, {0, 0, 4}, {0, 0, Integer.MAX_VALUE}, {0, 0, Integer.MIN_VALUE},
            {0, NONE, NONE}, {0, 0, 60}, {0, 0, 64}, {0, 64, 0},
        };
        for (int[] w : wrong) {
            String told = "(" + w[0] + ", " + w[1] + ", " + w[2] + ")";
            due.is("way" + told, g.way(w[0], w[1], w[2]), false);
            due.is("goes" + told, g.goes(w[0], w[1], w[2]), false);
        }
        due.is("WAYS after wrong ones", g.look(1), 0);
    }

    private static void mostStates() {
        GuardFlow g = new GuardFlow();
        g.begin(60);
        due.is("way(15, 59, 59)", g.way(15, 59, 59), true);
        due.is("goes(15, 59, 59)", g.goes(15, 59, 59), true);
        due.is("goes(15, 59, NONE)", g.goes(15, 59, NONE), false);
        due.is("way(15, 59, NONE)", g.way(15, 59, NONE), true);
        due.is("way(15, 60, 0)", g.way(15, 60, 0), false);
        due.is("way(15, 0, 60)", g.way(15, 0, 60), false);
        due.is("WAYS of 60 STATES", g.look(1), 2);
    }

    private static void always() {
        GuardFlow g = new GuardFlow();
        due.is("always(0, false) at first", g.always(0, false), false);
        due.is("always(0, true)", g.always(0, true), true);
        due.is("always(15, true)", g.always(15, true), true);
        due.is("always(15, true) again", g.always(15, true), false);
        due.is("always told", g.look(6), 2);
        due.is("always(0, false)", g.always(0, false), true);
        due.is("always told, one less", g.look(6), 1);
        due.is("always(-1, true)", g.always(-1, true), false);
        due.is("always(16, true)", g.always(16, true), false);
        due.is("always(16, false)", g.always(16, false), false);
        due.is("always told, as before", g.look(6), 1);
    }

    private static void whatForgedGoes() {
        GuardFlow g = full();
        due.is("refused way", g.way(1, 0, 2), false);
        due.is("refused way keeps FORGED", g.look(3), 1);
        due.is("way", g.way(1, 0, 0), true);
        due.is("way: FORGED goes", g.look(3), 0);
        g.forge();
        due.is("refused always", g.always(1, true), false);
        due.is("refused always keeps FORGED", g.look(3), 1);
        due.is("always", g.always(1, false), true);
        due.is("always: FORGED goes", g.look(3), 0);
        due.is("always: FORGED INSTRUCTIONS", g.look(5), NONE);
    }
}

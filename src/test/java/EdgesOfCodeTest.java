import java.util.function.Consumer;

/** The edges of promises 5 to 7: function, code, handler. */
public final class EdgesOfCodeTest extends Edges {
    public static void main(String[] args) {
        functionAllPlain();
        functionNumber();
        functionOfNone();
        functionOverEight();
        functionAndWhatWasForged();
        codeIsThis();
        codeOfNoSuchFunction();
        codeOfNoSuchInstruction();
        codeOfNoSuchKind();
        codeOfPlaces();
        codeOfFunctions();
        codeOfCallsOutside();
        codeElseZero();
        codeAndWhatWasForged();
        handlerOneMore();
        handlerOfNoSuchFunction();
        handlerOverSix();
        handlerOfNone();
        handlerFrom();
        handlerTo();
        handlerTarget();
        handlerAndWhatWasForged();
        end();
    }

    private static void functionAllPlain() {
        promise(5, "of n INSTRUCTIONS, all PLAIN");
        for (int n : new int[] {1, 2, 199, 200}) {
            Used u = new Used();
            is("function(" + n + ")", u.function(n), 0);
            is("INSTRUCTIONS", u.size(false, 0, 0), n);
            is("HANDLERS", u.size(false, 0, 1), 0);
            is("INSTRUCTIONS in all", u.look(4), n);
            for (int i = 0; i < n; i++) {
                is("KIND of " + i, u.of(false, 0, i, 0), PLAIN);
                is("number of " + i, u.of(false, 0, i, 1), 0);
            }
            is("one more", u.of(false, 0, n, 0), NONE);
        }
        // Rows that were used before hold nothing of what was in them.
        Used u = new Used();
        u.function(200);
        for (int i = 0; i < 200; i++) {
            u.code(0, i, i % 2 == 0 ? HOST : CALL, 7);
        }
        u.handler(0, 0, 200, 199);
        u.begin(1);
        is("function(200) after begin", u.function(200), 0);
        is("HOSTS", u.size(false, 0, 2), 0);
        is("HANDLERS", u.size(false, 0, 1), 0);
        is("reached", u.size(false, 0, 4), 200);
        for (int i = 0; i < 200; i += 3) {
            is("KIND of " + i, u.of(false, 0, i, 0), PLAIN);
            is("number of " + i, u.of(false, 0, i, 1), 0);
        }
    }

    private static void functionNumber() {
        promise(5, "its number");
        Used u = new Used();
        for (int f = 0; f < 8; f++) {
            is("function", u.function(200 - f), f);
            is("FUNCTIONS", u.look(2), f + 1);
        }
        for (int f = 0; f < 8; f++) {
            is("INSTRUCTIONS of " + f, u.size(false, f, 0), 200 - f);
        }
    }

    private static void functionOfNone() {
        promise(5, "NONE if n is none");
        is("function(1)", made(Edges::somethingForged).function(1), 2);
        is("function(200)", made(Edges::somethingForged).function(200), 2);
        for (int n : beside(1, 200)) {
            refused("function(" + n + ")", Edges::somethingForged, u -> u.function(n), NONE);
            refused("function(" + n + ") of a new one", u -> { }, u -> u.function(n), NONE);
        }
        refused("function(0)", Edges::something, u -> u.function(0), NONE);
        refused("function(201)", Edges::something, u -> u.function(201), NONE);
        Used u = new Used();
        is("function(0)", u.function(0), NONE);
        is("function(201)", u.function(201), NONE);
        is("these take no number", u.function(1), 0);
    }

    private static void functionOverEight() {
        promise(5, "or there are 8");
        Consumer<Used> eight = u -> {
            for (int f = 0; f < 8; f++) {
                u.function(1 + f % 2);
            }
            u.code(7, 0, CALL, 0);
            u.forge();
        };
        for (int n : new int[] {1, 2, 200, 0, 201, -1, MIN, MAX}) {
            refused("a ninth, function(" + n + ")", eight, u -> u.function(n), NONE);
        }
        Used seven = new Used();
        for (int f = 0; f < 7; f++) {
            seven.function(1);
        }
        is("the eighth", seven.function(200), 7);
        is("FUNCTIONS", seven.look(2), 8);
        is("the ninth", seven.function(1), NONE);
        is("FUNCTIONS", seven.look(2), 8);
        is("there is no FUNCTION 8", seven.size(false, 8, 0), NONE);
        Used taken = made(eight);
        is("take", taken.take(), true);
        is("a ninth, with what was taken", taken.function(1), NONE);
        is("begin", taken.begin(1), true);
        is("the first again", taken.function(1), 0);
    }

    private static void functionAndWhatWasForged() {
        promise(5, "What was FORGED goes, if it is one");
        Used u = made(Edges::somethingForged);
        is("function(0)", u.function(0), NONE);
        is("FORGED", u.look(3), 1);
        is("function(201)", u.function(201), NONE);
        is("FORGED", u.look(3), 1);
        is("function(1)", u.function(1), 2);
        is("FORGED", u.look(3), 0);
        is("FORGED INSTRUCTIONS", u.look(5), NONE);
        is("take", u.take(), false);
    }

    private static void codeIsThis() {
        promise(6, "INSTRUCTION i of a FUNCTION is this: true");
        Used u = new Used();
        for (int f = 0; f < 8; f++) {
            u.function(f == 7 ? 200 : 3);
        }
        is("the first of the first", u.code(0, 0, HOST, 1), true);
        is("the last of the first", u.code(0, 2, HOST, 2), true);
        is("the first of the last", u.code(7, 0, HOST, 3), true);
        is("the last of the last", u.code(7, 199, HOST, 4), true);
        holds("the first", u, false, 0, HOST, 1, PLAIN, 0, HOST, 2);
        is("KIND of the first", u.of(false, 7, 0, 0), HOST);
        is("number of the first", u.of(false, 7, 0, 1), 3);
        is("KIND of the last", u.of(false, 7, 199, 0), HOST);
        is("number of the last", u.of(false, 7, 199, 1), 4);
        is("HOSTS of the last FUNCTION", u.size(false, 7, 2), 2);
        for (int f = 1; f < 7; f++) {
            holds("those between", u, false, f, PLAIN, 0, PLAIN, 0, PLAIN, 0);
        }
        is("as it is already", u.code(0, 0, HOST, 1), true);
        is("PLAIN again", u.code(0, 0, PLAIN, 0), true);
        holds("the first", u, false, 0, PLAIN, 0, PLAIN, 0, HOST, 2);
    }

    private static void codeOfNoSuchFunction() {
        promise(6, "false if there is none such");
        is("code(0, 0, PLAIN, 0)", made(Edges::somethingForged).code(0, 0, PLAIN, 0), true);
        is("code(1, 0, PLAIN, 0)", made(Edges::somethingForged).code(1, 0, PLAIN, 0), true);
        for (int f : beside(0, 1)) {
            refused("code(" + f + ", 0, PLAIN, 0)", Edges::somethingForged,
                    u -> u.code(f, 0, PLAIN, 0));
            refused("code(" + f + ", 3, HOST, 1)", Edges::somethingForged,
                    u -> u.code(f, 3, HOST, 1));
        }
        refused("code(0, 0, PLAIN, 0) of a new one", u -> { }, u -> u.code(0, 0, PLAIN, 0));
        Consumer<Used> eight = u -> {
            for (int f = 0; f < 8; f++) {
                u.function(1);
            }
        };
        is("code of FUNCTION 7", made(eight).code(7, 0, RISK, 0), true);
        refused("code of FUNCTION 8", eight, u -> u.code(8, 0, RISK, 0));
    }

    private static void codeOfNoSuchInstruction() {
        promise(6, "INSTRUCTION i of a FUNCTION is this: true; false if there is none such");
        is("code(0, 0, RISK, 0)", made(Edges::somethingForged).code(0, 0, RISK, 0), true);
        is("code(0, 4, RISK, 0)", made(Edges::somethingForged).code(0, 4, RISK, 0), true);
        is("code(1, 3, HOST, 1)", made(Edges::somethingForged).code(1, 3, HOST, 1), true);
        for (int i : beside(0, 4)) {
            refused("code(0, " + i + ", RISK, 0)", Edges::somethingForged,
                    u -> u.code(0, i, RISK, 0));
        }
        for (int i : beside(0, 3)) {
            refused("code(1, " + i + ", HOST, 1)", Edges::somethingForged,
                    u -> u.code(1, i, HOST, 1));
        }
        // INSTRUCTION 5 of FUNCTION 0 is FORGED alone, and can not be changed there.
        is("one that is FORGED alone", made(Edges::somethingForged).of(true, 0, 5, 0), RETURN);
        refused("code(0, 5, PLAIN, 0)", Edges::somethingForged, u -> u.code(0, 5, PLAIN, 0));
        for (int n : new int[] {1, 200}) {
            is("the last of " + n, made(u -> u.function(n)).code(0, n - 1, RISK, 0), true);
            refused("one more than " + n, u -> u.function(n), u -> u.code(0, n, RISK, 0));
            refused("one below 0", u -> u.function(n), u -> u.code(0, -1, RISK, 0));
        }
    }

    private static void codeOfNoSuchKind() {
        promise(6, "or no such KIND");
        for (int kind = 0; kind <= 8; kind++) {
            Used u = new Used();
            u.function(1);
            is("code(0, 0, " + kind + ", 0)", u.code(0, 0, kind, 0), true);
            is("KIND", u.of(false, 0, 0, 0), kind);
        }
        for (int kind : beside(0, 8)) {
            refused("code(0, 0, " + kind + ", 0)", Edges::somethingForged,
                    u -> u.code(0, 0, kind, 0));
            refused("code(0, 0, " + kind + ", 1)", Edges::somethingForged,
                    u -> u.code(0, 0, kind, 1));
        }
    }

    /** The last number that a KIND may have is taken, and those beside are not. */
    private static void numbers(int kind, int last) {
        for (int number : new int[] {0, last / 2, last}) {
            Used u = made(Edges::somethingForged);
            is("code(0, 0, " + kind + ", " + number + ")", u.code(0, 0, kind, number), true);
            is("KIND", u.of(false, 0, 0, 0), kind);
            is("number", u.of(false, 0, 0, 1), number);
            is("FORGED", u.look(3), 0);
        }
        for (int number : beside(0, last)) {
            refused("code(0, 0, " + kind + ", " + number + ")", Edges::somethingForged,
                    u -> u.code(0, 0, kind, number));
        }
    }

    private static void codeOfPlaces() {
        promise(6, "t of an INSTRUCTION of that FUNCTION");
        numbers(JUMP, 4);
        numbers(TEST, 4);
        for (int kind : new int[] {JUMP, TEST}) {
            for (int n : new int[] {1, 199, 200}) {
                Consumer<Used> longer = u -> {
                    u.function(n);
                    u.function(200);
                };
                is("to the first", made(longer).code(0, n - 1, kind, 0), true);
                is("to the last", made(longer).code(0, n - 1, kind, n - 1), true);
                is("to itself", made(longer).code(0, 0, kind, 0), true);
                refused("one too far", longer, u -> u.code(0, 0, kind, n));
                refused("before the first", longer, u -> u.code(0, 0, kind, -1));
            }
            // What another FUNCTION, or what was FORGED, has is not of that FUNCTION.
            refused("of the longer FUNCTION 0", Edges::somethingForged,
                    u -> u.code(1, 0, kind, 4));
            refused("of what was FORGED", Edges::somethingForged, u -> u.code(0, 0, kind, 5));
        }
    }

    private static void codeOfFunctions() {
        promise(6, "f 0 .. 7");
        numbers(CALL, 7);
        Used u = new Used();
        u.function(1);
        for (int f = 0; f < 8; f++) {
            is("CALL " + f + ", of one FUNCTION", u.code(0, 0, CALL, f), true);
            is("number", u.of(false, 0, 0, 1), f);
        }
        is("CALL 8", u.code(0, 0, CALL, 8), false);
        is("CALL -1", u.code(0, 0, CALL, -1), false);
        is("number, as before", u.of(false, 0, 0, 1), 7);
    }

    private static void codeOfCallsOutside() {
        promise(6, "c 0 .. 15");
        numbers(HOST, 15);
        numbers(GUARD, 15);
    }

    private static void codeElseZero() {
        promise(6, "else 0");
        for (int kind : new int[] {PLAIN, RETURN, THROW, RISK}) {
            Used u = made(Edges::somethingForged);
            is("code(0, 0, " + kind + ", 0)", u.code(0, 0, kind, 0), true);
            is("KIND", u.of(false, 0, 0, 0), kind);
            for (int number : beside(0, 0)) {
                refused("code(0, 0, " + kind + ", " + number + ")", Edges::somethingForged,
                        v -> v.code(0, 0, kind, number));
            }
        }
    }

    private static void codeAndWhatWasForged() {
        promise(5, "likewise of the next two");
        Used u = made(Edges::somethingForged);
        is("code, false", u.code(0, 5, PLAIN, 0), false);
        is("FORGED", u.look(3), 1);
        is("code, true, and as it is", u.code(0, 4, RETURN, 0), true);
        is("FORGED", u.look(3), 0);
        is("FORGED INSTRUCTIONS", u.look(5), NONE);
        is("take", u.take(), false);
    }

    private static void handlerOneMore() {
        promise(7, "One more HANDLER of a FUNCTION: true");
        for (int n : new int[] {1, 2, 200}) {
            Used u = new Used();
            u.function(n);
            is("no HANDLER 0", u.range(false, 0, 0, 0), NONE);
            is("the widest", u.handler(0, 0, n, 0), true);
            is("HANDLERS", u.size(false, 0, 1), 1);
            is("the last INSTRUCTION alone", u.handler(0, n - 1, n, n - 1), true);
            is("HANDLERS", u.size(false, 0, 1), 2);
            ranges("as told", u, false, 0, 0, n, 0);
            ranges("as told", u, false, 1, n - 1, n, n - 1);
        }
        Used u = made(Edges::something);
        is("one that is there already", u.handler(0, 0, 2, 4), true);
        is("HANDLERS", u.size(false, 0, 1), 2);
    }

    private static void handlerOfNoSuchFunction() {
        promise(7, "false if there is no such FUNCTION");
        is("handler(0, 0, 1, 0)", made(Edges::somethingForged).handler(0, 0, 1, 0), true);
        is("handler(1, 0, 1, 0)", made(Edges::somethingForged).handler(1, 0, 1, 0), true);
        for (int f : beside(0, 1)) {
            refused("handler(" + f + ", 0, 1, 0)", Edges::somethingForged,
                    u -> u.handler(f, 0, 1, 0));
        }
        refused("handler(0, 0, 1, 0) of a new one", u -> { }, u -> u.handler(0, 0, 1, 0));
        Consumer<Used> eight = u -> {
            for (int f = 0; f < 8; f++) {
                u.function(1);
            }
        };
        is("handler of FUNCTION 7", made(eight).handler(7, 0, 1, 0), true);
        refused("handler of FUNCTION 8", eight, u -> u.handler(8, 0, 1, 0));
    }

    private static void handlerOverSix() {
        promise(7, "it has 6");
        Consumer<Used> six = u -> {
            something(u);
            for (int k = 1; k < 6; k++) {
                u.handler(0, k - 1, k, k - 1);
            }
            u.forge();
        };
        Used u = made(six);
        is("HANDLERS", u.size(false, 0, 1), 6);
        ranges("the last", u, false, 5, 4, 5, 4);
        refused("a seventh", six, v -> v.handler(0, 0, 5, 0));
        refused("a seventh that is none", six, v -> v.handler(0, MIN, MAX, -1));
        is("no HANDLER 6", u.range(false, 0, 6, 0), NONE);
        is("another FUNCTION has room", u.handler(1, 0, 1, 0), true);
        Used five = new Used();
        five.function(1);
        for (int k = 0; k < 6; k++) {
            is("HANDLER " + k, five.handler(0, 0, 1, 0), true);
        }
        is("the seventh", five.handler(0, 0, 1, 0), false);
        five.forge();
        is("take", five.take(), true);
        is("the seventh, of what was taken", five.handler(0, 0, 1, 0), false);
        is("HANDLERS", five.size(false, 0, 1), 6);
    }

    private static void handlerOfNone() {
        promise(7, "or these are none");
        int[][] none = {
            {MIN, MIN, MIN}, {MAX, MAX, MAX}, {MIN, MAX, 0}, {MAX, MIN, 0}, {-1, 0, 0},
            {0, 0, 0}, {0, 6, 5}, {5, 6, 0}, {5, 5, 4}, {4, 3, 2}, {0, 5, 5}, {0, 1, -1},
            {NONE, NONE, NONE}, {-1, 5, 4},
        };
        for (int[] h : none) {
            String told = "handler(0, " + h[0] + ", " + h[1] + ", " + h[2] + ")";
            refused(told, Edges::somethingForged, u -> u.handler(0, h[0], h[1], h[2]));
            refused(told + ", nothing FORGED", Edges::something,
                    u -> u.handler(0, h[0], h[1], h[2]));
        }
    }

    private static void handlerFrom() {
        terms("FROM below TO");
        is("FROM 0", made(Edges::something).handler(0, 0, 1, 0), true);
        is("FROM 1 below TO", made(Edges::something).handler(0, 4, 5, 0), true);
        for (int from : beside(0, 4)) {
            refused("FROM " + from, Edges::somethingForged, u -> u.handler(0, from, 5, 0));
        }
        refused("FROM 3, TO 3", Edges::somethingForged, u -> u.handler(0, 3, 3, 0));
        refused("FROM 3, TO 2", Edges::somethingForged, u -> u.handler(0, 3, 2, 0));
        refused("FROM 0, TO 0", Edges::somethingForged, u -> u.handler(0, 0, 0, 0));
        refused("FROM 5, TO 6", Edges::somethingForged, u -> u.handler(0, 5, 6, 0));
    }

    private static void handlerTo() {
        terms("TO at most the number of INSTRUCTIONS");
        is("TO 1", made(Edges::something).handler(0, 0, 1, 0), true);
        is("TO the number of INSTRUCTIONS", made(Edges::something).handler(0, 0, 5, 0), true);
        for (int to : beside(1, 5)) {
            refused("TO " + to, Edges::somethingForged, u -> u.handler(0, 0, to, 0));
        }
        for (int n : new int[] {1, 200}) {
            is("TO " + n, made(u -> u.function(n)).handler(0, 0, n, 0), true);
            refused("TO one more than " + n, u -> u.function(n), u -> u.handler(0, 0, n + 1, 0));
            refused("FROM " + n, u -> u.function(n), u -> u.handler(0, n, n, 0));
        }
        refused("TO of the longer FUNCTION", Edges::somethingForged, u -> u.handler(1, 0, 5, 0));
        refused("TO of what was FORGED", Edges::somethingForged, u -> u.handler(0, 0, 6, 0));
    }

    private static void handlerTarget() {
        terms("TARGET below that");
        is("TARGET 0, before FROM", made(Edges::something).handler(0, 1, 2, 0), true);
        is("TARGET in the range", made(Edges::something).handler(0, 1, 3, 2), true);
        is("TARGET at TO", made(Edges::something).handler(0, 1, 3, 3), true);
        is("TARGET the last one", made(Edges::something).handler(0, 1, 3, 4), true);
        for (int target : beside(0, 4)) {
            refused("TARGET " + target, Edges::somethingForged, u -> u.handler(0, 0, 5, target));
        }
        for (int n : new int[] {1, 200}) {
            is("TARGET below " + n, made(u -> u.function(n)).handler(0, 0, 1, n - 1), true);
            refused("TARGET " + n, u -> u.function(n), u -> u.handler(0, 0, n, n));
        }
        refused("TARGET of the longer FUNCTION", Edges::somethingForged,
                u -> u.handler(1, 0, 1, 4));
        refused("TARGET of what was FORGED", Edges::somethingForged, u -> u.handler(0, 0, 1, 5));
    }

    private static void handlerAndWhatWasForged() {
        promise(5, "likewise of the next two");
        Used u = made(Edges::somethingForged);
        is("handler, false", u.handler(0, 0, 6, 0), false);
        is("FORGED", u.look(3), 1);
        is("handler, true", u.handler(0, 0, 5, 0), true);
        is("FORGED", u.look(3), 0);
        is("FORGED INSTRUCTIONS", u.look(5), NONE);
        is("take", u.take(), false);
    }
}

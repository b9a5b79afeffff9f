import java.util.ArrayList;
import java.util.List;
import java.util.function.Consumer;

/** The sentences of the document that name no edge of their own, and what holds between them. */
public final class SentencesTest extends Edges {
    public static void main(String[] args) {
        byATable();
        whoeverPutThem();
        eachObjectByItself();
        afterIsMay();
        behindHasAfter();
        targetsOfHandlers();
        certifiedWhenForged();
        thereIsNone();
        oneMoreFunction();
        numbersThatCanNotBe();
        setsOfForged();
        sizesOfForged();
        onlyWhatIsDescribed();
        end();
    }

    private static Consumer<Used> inOrder(List<Consumer<Used>> calls) {
        return u -> {
            for (Consumer<Used> call : calls) {
                call.accept(u);
            }
        };
    }

    private static void byATable() {
        part("What it is", "states that may be there at each place of some functions, by a table"
                + " of what calls do to them");
        Used u = with(4, 3);
        code(u, 0, HOST, 5, GUARD, 6, PLAIN, 0);
        mays("no WAYS", u, false, 0, 1, 0, 0);
        u.way(5, 0, 3);
        mays("one WAY", u, false, 0, 1, 8, 0);
        u.way(5, 0, 1);
        mays("two of them", u, false, 0, 1, 10, 0);
        u.way(6, 3, 2);
        mays("a WAY of the next", u, false, 0, 1, 10, 4);
        u.way(6, 1, 1);
        mays("from the other one too", u, false, 0, 1, 10, 6);
        u.way(6, 0, 0);
        mays("from one that can not be there", u, false, 0, 1, 10, 6);
        u.way(7, 3, 0);
        mays("a WAY of another CALL", u, false, 0, 1, 10, 6);
        u.begin(4);
        u.function(3);
        code(u, 0, HOST, 5, GUARD, 6, PLAIN, 0);
        mays("the same INSTRUCTIONS, and none of the WAYS", u, false, 0, 1, 0, 0);
    }

    private static void whoeverPutThem() {
        part("What it is", "guards put ahead of the calls that need one, and looked at,"
                + " whoever put them");
        ByChance chance = new ByChance(8);
        for (int run = 0; run < 60; run++) {
            Consumer<Used> table = inOrder(chance.table());
            Consumer<Used> calls = table.andThen(inOrder(chance.functions()));
            Consumer<Used> forged = calls.andThen(Used::forge);
            same("GUARDS by forge and by hand, run " + run,
                    forged.andThen(Used::take), table.andThen(byHand(made(forged))));
        }
        Used u = with(1, 2);
        code(u, 0, GUARD, 3, HOST, 3);
        is("GUARDED by hand", u.certify(false), 0);
        is("so none is put in", u.forge(), 0);
        u.way(4, 0, 0);
        u.code(0, 0, GUARD, 4);
        is("a wrong one by hand", u.certify(false), 1);
        is("so one is put in", u.forge(), 1);
        is("and the wrong one is still looked at", u.certify(true), 1);
    }

    /** The calls that build what another object has FORGED, INSTRUCTION by INSTRUCTION. */
    private static Consumer<Used> byHand(Used u) {
        List<Consumer<Used>> calls = new ArrayList<>();
        int count = u.look(2);
        for (int f = 0; f < count; f++) {
            int at = f;
            int n = u.size(true, f, 0);
            calls.add(b -> b.function(n));
            for (int i = 0; i < n; i++) {
                int place = i;
                int kind = u.of(true, f, i, 0);
                int number = u.of(true, f, i, 1);
                calls.add(b -> b.code(at, place, kind, number));
            }
            int handlers = u.size(true, f, 1);
            for (int k = 0; k < handlers; k++) {
                int from = u.range(true, f, k, 0);
                int to = u.range(true, f, k, 1);
                int target = u.range(true, f, k, 2);
                calls.add(b -> b.handler(at, from, to, target));
            }
        }
        return inOrder(calls);
    }

    private static void eachObjectByItself() {
        promise(1, "One STATE, no WAYS, no FUNCTIONS.");
        Consumer<Used> nothing = u -> { };
        same("new, beside one that is used",
                u -> made(Edges::somethingForged).take(), nothing);
        Used one = made(Edges::somethingForged);
        Used other = made(Edges::somethingForged);
        other.take();
        other.begin(60);
        other.function(200);
        is("STATES of the one", one.look(0), 3);
        is("FORGED of the one", one.look(3), 1);
        holds("FUNCTION 0 of the one", one, true, 0,
                GUARD, 1, HOST, 1, CALL, 1, GUARD, 2, HOST, 2, RETURN, 0);
        is("STATES of the other", other.look(0), 60);
        is("FORGED of the other", other.look(3), 0);
        is("INSTRUCTIONS of the other", other.look(4), 200);
    }

    private static void afterIsMay() {
        terms("AFTER an INSTRUCTION is what its MAY is, but");
        long some = 1L | 1L << 1 | 1L << 31 | 1L << 32 | 1L << 59;
        int[][] kept = {{PLAIN, 0}, {JUMP, 2}, {TEST, 2}, {TEST, 1}, {RISK, 0}};
        for (int[] k : kept) {
            Used u = withSome(4);
            code(u, 0, HOST, 9, k[0], k[1], PLAIN, 0, RETURN, 0);
            mays("KIND " + k[0], u, false, 0, 1, some, some, some);
            is("ALL", u.set(false, 0, 2), some);
        }
        Used guarded = withSome(4);
        guarded.way(8, 0, 58);
        for (int s : new int[] {0, 1, 31, 32, 59}) {
            guarded.way(9, s, s);
        }
        code(guarded, 0, GUARD, 9, HOST, 9, PLAIN, 0, RETURN, 0);
        mays("GUARDED HOST", guarded, false, 0, 1, some, some, some);
        for (int kind : new int[] {RETURN, THROW}) {
            Used u = withSome(4);
            code(u, 0, HOST, 9, kind, 0, PLAIN, 0, RETURN, 0);
            mays("KIND " + kind, u, false, 0, 1, some, 0, 0);
            is("ALL has what is after it", u.set(false, 0, 2), some);
        }
    }

    /** HOST 9 leads from STATE 0 to five of 60. */
    private static Used withSome(int length) {
        Used u = with(60, length);
        for (int s : new int[] {0, 1, 31, 32, 59}) {
            u.way(9, 0, s);
        }
        return u;
    }

    private static void behindHasAfter() {
        terms("MAY of each one that comes behind has AFTER.");
        Used u = with(5, 9, 2);
        for (int c = 1; c < 5; c++) {
            u.way(c, 0, c);
        }
        code(u, 0, TEST, 4, TEST, 6, HOST, 1, JUMP, 8, HOST, 2, JUMP, 8, CALL, 1, JUMP, 8,
                RETURN, 0);
        code(u, 1, GUARD, 3, RETURN, 0);
        mays("three ways to one place", u, false, 0, 1, 1, 1, 2, 1, 4, 1, 8, 14);
        is("EXIT", u.set(false, 0, 1), 14);
        u.code(0, 5, PLAIN, 0);
        mays("one goes on through the CALL", u, false, 0, 1, 1, 1, 2, 1, 4, 5, 8, 10);
        u.way(3, 2, 4);
        mays("and comes back as another", u, false, 0, 1, 1, 1, 2, 1, 4, 5, 24, 26);
        u.code(0, 3, JUMP, 2);
        mays("a round that gets no more", u, false, 0, 1, 1, 3, 2, 1, 4, 5, 24, 24);
        u.way(1, 1, 4);
        mays("a round that gets one more", u, false, 0, 1, 1, 19, 18, 1, 4, 5, 24, 24);
    }

    private static void targetsOfHandlers() {
        terms("MAY of the TARGET of a HANDLER has MAY of each INSTRUCTION in its range (FROM to"
                + " before TO) that is CALL, THROW or RISK");
        Used u = with(4, 8);
        u.way(1, 0, 1);
        u.way(1, 1, 2);
        u.way(1, 2, 3);
        code(u, 0, RISK, 0, HOST, 1, RISK, 0, HOST, 1, CALL, 7, RETURN, 0, PLAIN, 0, PLAIN, 0);
        mays("no HANDLER", u, false, 0, 1, 1, 2, 2, 4, 0, 0, 0);
        u.handler(0, 2, 3, 6);
        mays("one INSTRUCTION in its range", u, false, 0, 1, 1, 2, 2, 4, 0, 2, 2);
        u.handler(0, 0, 4, 6);
        mays("two of them", u, false, 0, 1, 1, 2, 2, 4, 0, 3, 3);
        u.handler(0, 1, 5, 7);
        mays("in two ranges, with different TARGETS", u, false, 0, 1, 1, 2, 2, 4, 0, 3, 7);
        u.code(0, 4, THROW, 0);
        mays("THROW in the place of CALL", u, false, 0, 1, 1, 2, 2, 4, 0, 3, 7);
        u.code(0, 4, PLAIN, 0);
        mays("PLAIN in the place of THROW", u, false, 0, 1, 1, 2, 2, 4, 4, 3, 3);
        u.handler(0, 0, 8, 1);
        mays("TARGET in the range itself", u, false, 0, 1, 15, 14, 14, 12, 12, 15, 15);
        Used far = with(2, 4);
        far.way(1, 0, 1);
        code(far, 0, JUMP, 3, RISK, 0, RETURN, 0, HOST, 1);
        far.handler(0, 0, 3, 2);
        mays("only what is reached", far, false, 0, 1, 0, 0, 1);
    }

    private static void certifiedWhenForged() {
        terms("FUNCTIONS are CERTIFIED if each HOST that NEEDS a GUARD is GUARDED, and each GUARD c"
                + " has a HOST c just behind it that is GUARDED.");
        ByChance chance = new ByChance(10);
        int certified = 0;
        for (int run = 0; run < 200; run++) {
            Used u = made(inOrder(chance.table()).andThen(inOrder(chance.functions())));
            int put = u.forge();
            int answer = u.certify(true);
            is("run " + run + ", by its own GUARDS and HOSTS", answer, firstThatKeeps(u, true));
            is("run " + run + ", before", u.certify(false), firstThatKeeps(u, false));
            is("run " + run + ", GUARDS", guards(u, true), guards(u, false) + put);
            if (answer != 0) {
                is("run " + run + ", only a GUARD that was there can keep it",
                        u.of(true, (answer - 1) / 256, (answer - 1) % 256, 0), GUARD);
            }
            u.take();
            is("run " + run + ", FORGED once, none is lacking", u.forge(), 0);
            certified += answer == 0 ? 1 : 0;
        }
        is("there were some of both", certified > 20 && certified < 180, true);
    }

    private static int guards(Used u, boolean forged) {
        int sum = 0;
        for (int f = 0; f < u.look(2); f++) {
            sum += u.size(forged, f, 3);
        }
        return sum;
    }

    private static int firstThatKeeps(Used u, boolean forged) {
        for (int f = 0; f < u.look(2); f++) {
            int n = u.size(forged, f, 0);
            for (int i = 0; i < n; i++) {
                int kind = u.of(forged, f, i, 0);
                boolean lacks = kind == HOST && u.of(forged, f, i, 3) == 1
                        && u.of(forged, f, i, 2) == 0;
                boolean idle = kind == GUARD && u.of(forged, f, i + 1, 2) != 1;
                if (lacks || idle) {
                    return 256 * f + i + 1;
                }
            }
        }
        return 0;
    }

    private static void thereIsNone() {
        terms("The constants: `NONE = -1`: There is none.");
        is("NONE", GuardFlow.NONE, -1);
        Used u = new Used();
        is("no FUNCTION", u.function(0), NONE);
        is("nothing FORGED", u.certify(true), NONE);
        is("no INSTRUCTION", u.of(false, 0, 0, 0), NONE);
        is("no FUNCTION to have a size", u.size(false, 0, 0), NONE);
        is("no HANDLER", u.range(false, 0, 0, 0), NONE);
        is("no INSTRUCTIONS FORGED", u.look(5), NONE);
        is("no such which", u.look(7), NONE);
        is("no STATE to go to", u.way(0, 0, GuardFlow.NONE), true);
        is("the same", u.goes(0, 0, GuardFlow.NONE), true);
        is("MAY of none is no NONE", u.may(false, 0, 0), 0);
        is("a set of none is no NONE", u.set(false, 0, 0), 0);
    }

    private static void oneMoreFunction() {
        promise(5, "One more FUNCTION");
        Used u = made(Edges::something);
        is("its number", u.function(2), 2);
        is("FUNCTIONS", u.look(2), 3);
        is("INSTRUCTIONS", u.look(4), 11);
        holds("FUNCTION 0 as before", u, false, 0, HOST, 1, CALL, 1, GUARD, 2, HOST, 2, RETURN, 0);
        holds("FUNCTION 1 as before", u, false, 1, RISK, 0, HOST, 15, TEST, 0, RETURN, 0);
        ranges("HANDLER of 0 as before", u, false, 0, 0, 2, 4);
        holds("the new one", u, false, 2, PLAIN, 0, PLAIN, 0);
        is("it has no HANDLERS", u.size(false, 2, 1), 0);
        is("nobody calls it", u.size(false, 2, 4), 0);
        is("way", u.way(1, 0, 0), true);
        Used called = with(2, 2);
        code(called, 0, CALL, 1, RETURN, 0);
        mays("CALL of one that is not there", called, false, 0, 1, 0);
        is("now it is there", called.function(1), 1);
        called.code(1, 0, RETURN, 0);
        mays("CALL of it", called, false, 0, 1, 1);
    }

    private static void numbersThatCanNotBe() {
        promise(6, "or its number can not be (t of an INSTRUCTION of that FUNCTION, f 0 .. 7,"
                + " c 0 .. 15, else 0)");
        int[] most = {0, 2, 2, 7, 15, 15, 0, 0, 0};
        for (int kind = 0; kind <= 8; kind++) {
            Used u = with(1, 3, 200);
            for (int number = -20; number <= 220; number++) {
                boolean can = number >= 0 && number <= most[kind];
                is("code(0, 1, " + kind + ", " + number + ")", u.code(0, 1, kind, number), can);
            }
            is("KIND of the last that could be", u.of(false, 0, 1, 0), kind);
            is("its number", u.of(false, 0, 1, 1), most[kind]);
        }
    }

    private static void setsOfForged() {
        promise(13, "Of a FUNCTION (or of what was FORGED)");
        Used u = with(3, 4, 3);
        u.way(0, 0, 1);
        u.way(0, 1, 2);
        u.way(1, 0, 0);
        u.way(1, 1, 1);
        u.way(1, 2, 2);
        code(u, 0, TEST, 3, HOST, 0, CALL, 1, RETURN, 0);
        code(u, 1, HOST, 1, GUARD, 0, RETURN, 0);
        is("GUARDS put in", u.forge(), 1);
        for (boolean forged : new boolean[] {false, true}) {
            is("ENTRY of 0", u.set(forged, 0, 0), 1);
            is("EXIT of 0", u.set(forged, 0, 1), 5);
            is("ALL of 0", u.set(forged, 0, 2), 7);
            is("ENTRY of 1", u.set(forged, 1, 0), 2);
            is("EXIT of 1", u.set(forged, 1, 1), 4);
            is("ALL of 1", u.set(forged, 1, 2), 6);
        }
        // A GUARD and its HOST do together what the HOST did alone, so no FORGE changes a set.
        ByChance chance = new ByChance(13);
        for (int run = 0; run < 100; run++) {
            Used any = made(inOrder(chance.table()).andThen(inOrder(chance.functions())));
            any.forge();
            for (int f = 0; f < any.look(2); f++) {
                for (int what = 0; what <= 2; what++) {
                    is("run " + run + ", set(true, " + f + ", " + what + ")",
                            any.set(true, f, what), any.set(false, f, what));
                }
            }
        }
    }

    private static void sizesOfForged() {
        promise(14, "Of a FUNCTION");
        Used u = made(Edges::somethingForged);
        int[][] due = {{5, 1, 2, 1, 5}, {4, 1, 1, 0, 3}};
        int[][] dueForged = {{6, 1, 2, 2, 6}, {5, 1, 1, 1, 3}};
        for (int f = 0; f < 2; f++) {
            for (int what = 0; what <= 4; what++) {
                is("size(false, " + f + ", " + what + ")", u.size(false, f, what), due[f][what]);
                is("size(true, " + f + ", " + what + ")", u.size(true, f, what),
                        dueForged[f][what]);
            }
        }
        u.take();
        for (int f = 0; f < 2; f++) {
            for (int what = 0; what <= 4; what++) {
                is("taken, size(false, " + f + ", " + what + ")", u.size(false, f, what),
                        dueForged[f][what]);
            }
        }
    }

    private static void onlyWhatIsDescribed() {
        part("Not promised", "Nothing is promised beyond the answers and state changes described"
                + " above");
        // To ask is no change that is described: between all calls it must not show.
        ByChance chance = new ByChance(9);
        for (int run = 0; run < 60; run++) {
            List<Consumer<Used>> calls = new ArrayList<>(chance.table());
            calls.addAll(chance.functions());
            calls.add(Used::forge);
            int more = chance.below(5);
            calls.add(u -> changeMore(u, more));
            List<Consumer<Used>> asked = new ArrayList<>();
            for (Consumer<Used> call : calls) {
                asked.add(call);
                asked.add(SentencesTest::askSome);
            }
            same("asked between all calls, run " + run, inOrder(asked), inOrder(calls));
        }
    }

    private static void changeMore(Used u, int which) {
        switch (which) {
            case 0 -> u.take();
            case 1 -> u.way(3, 0, NONE);
            case 2 -> {
                u.take();
                u.always(2, true);
                u.forge();
            }
            case 3 -> {
                u.take();
                u.code(0, 1, JUMP, 0);
            }
            default -> u.handler(0, 0, 2, 2);
        }
    }

    private static void askSome(Used u) {
        u.certify(false);
        u.certify(true);
        u.may(true, 0, 1);
        u.set(false, 0, 2);
        u.of(true, 0, 0, 3);
        u.look(5);
    }
}

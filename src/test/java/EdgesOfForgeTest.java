import java.util.List;
import java.util.function.Consumer;

/** The edges of promises 8 to 10: forge, take, certify; and what 'Terms' says of them. */
public final class EdgesOfForgeTest extends Edges {
    public static void main(String[] args) {
        forgeHowMany();
        forgeTooLong();
        forgeNothingThen();
        forgeAheadOfEachThatNeedsOne();
        forgeWhereTheyWent();
        forgeLiesBeside();
        forgeUntilTheyAreChanged();
        takeTakesThePlace();
        takeOfNothing();
        certifyIsZero();
        certifyTellsTheFirst();
        certifyTellsThePlace();
        certifyOfNothing();
        certifiedHosts();
        certifiedGuards();
        end();
    }

    /** Some FUNCTIONS, the first `hosts` INSTRUCTIONS of each a HOST that NEEDS a GUARD. */
    private static Consumer<Used> hosts(int hosts, int... lengths) {
        return u -> {
            u.always(15, true);
            for (int f = 0; f < lengths.length; f++) {
                u.function(lengths[f]);
                for (int i = 0; i < hosts; i++) {
                    u.code(f, i, HOST, 15);
                }
            }
        };
    }

    private static void forgeHowMany() {
        promise(8, "FORGES: how many GUARDS were put in");
        Used none = new Used();
        is("no FUNCTIONS", none.forge(), 0);
        is("that is FORGED", none.look(3), 1);
        is("of no INSTRUCTIONS", none.look(5), 0);
        Used plain = made(hosts(0, 1));
        is("no HOSTS", plain.forge(), 0);
        is("that is FORGED", plain.look(3), 1);
        is("INSTRUCTIONS", plain.look(5), 1);
        Used one = made(hosts(1, 1));
        is("one HOST", one.forge(), 1);
        is("INSTRUCTIONS", one.look(5), 2);
        is("once more", one.forge(), 1);
        is("INSTRUCTIONS", one.look(5), 2);
        is("take", one.take(), true);
        is("none is lacking now", one.forge(), 0);
        is("INSTRUCTIONS", one.look(5), 2);
        Used eight = made(hosts(1, 1, 1, 1, 1, 1, 1, 1, 1));
        is("one in each of eight", eight.forge(), 8);
        is("INSTRUCTIONS", eight.look(5), 16);
        Used many = made(hosts(100, 100, 100, 100, 100));
        is("a hundred in each of four", many.forge(), 400);
        is("INSTRUCTIONS", many.look(5), 800);
        is("CERTIFIED", many.certify(true), 0);
    }

    private static void forgeTooLong() {
        promise(8, "-2 if a FUNCTION would have more than 200 INSTRUCTIONS");
        is("200 and none", made(hosts(0, 200)).forge(), 0);
        is("199 and 1", made(hosts(1, 199)).forge(), 1);
        is("200 and 1", made(hosts(1, 200)).forge(), -2);
        is("100 and 100", made(hosts(100, 100)).forge(), 100);
        is("101 and 100", made(hosts(100, 101)).forge(), -2);
        is("100 and 101", made(hosts(101, 101)).forge(), -2);
        is("200 and 200", made(hosts(200, 200)).forge(), -2);
        is("199 and 1 in each of eight",
                made(hosts(1, 199, 199, 199, 199, 199, 199, 199, 199)).forge(), 8);
        is("the first alone too long", made(hosts(1, 200, 1, 1, 1, 1, 1, 1, 1)).forge(), -2);
        is("the last alone too long", made(hosts(1, 1, 1, 1, 1, 1, 1, 1, 200)).forge(), -2);
        is("too long in all, and none by itself", made(hosts(60, 140, 140)).forge(), 120);
        Used full = made(hosts(1, 199));
        full.forge();
        is("INSTRUCTIONS", full.size(true, 0, 0), 200);
        is("the last of them", full.of(true, 0, 199, 0), PLAIN);
        is("one more", full.of(true, 0, 200, 0), NONE);
        is("take", full.take(), true);
        is("none is lacking in 200", full.forge(), 0);
        full.code(0, 199, HOST, 15);
        is("one is lacking in 200", full.forge(), -2);
    }

    private static void forgeNothingThen() {
        promise(8, "(nothing is FORGED then)");
        List<Consumer<Used>> tooLong = List.of(
                hosts(1, 200), hosts(2, 199), hosts(1, 1, 2, 200), hosts(1, 3, 200, 3));
        for (Consumer<Used> calls : tooLong) {
            refused("forge", calls, Used::forge, -2);
            Used u = made(calls);
            is("forge", u.forge(), -2);
            is("FORGED", u.look(3), 0);
            is("FORGED INSTRUCTIONS", u.look(5), NONE);
            is("certify", u.certify(true), NONE);
            is("size", u.size(true, 0, 0), NONE);
            is("take", u.take(), false);
            is("always no more", u.always(15, false), true);
            u.way(15, 0, 0);
            is("forge, none is lacking", u.forge(), 0);
            is("FORGED INSTRUCTIONS", u.look(5), u.look(4));
        }
        // What was FORGED before has gone by the change that made it too long.
        Used u = made(hosts(1, 199));
        is("forge", u.forge(), 1);
        is("one more HOST", u.code(0, 198, HOST, 15), true);
        is("forge", u.forge(), -2);
        is("FORGED", u.look(3), 0);
        is("take", u.take(), false);
    }

    private static void forgeAheadOfEachThatNeedsOne() {
        terms("To FORGE: GUARD c comes ahead of each HOST c that NEEDS one and is not GUARDED");
        Used u = new Used();
        u.way(0, 0, 0);
        u.way(14, 0, 0);
        u.always(14, true);
        u.function(6);
        // The first and the last one of all, and numbers at both ends.
        code(u, 0, HOST, 14, HOST, 0, GUARD, 14, HOST, 14, HOST, 0, HOST, 15);
        is("forge", u.forge(), 2);
        holds("FORGED", u, true, 0, GUARD, 14, HOST, 14, HOST, 0, GUARD, 14, HOST, 14, HOST, 0,
                GUARD, 15, HOST, 15);
        is("HOSTS", u.size(true, 0, 2), 5);
        is("GUARDS", u.size(true, 0, 3), 3);
        holds("the FUNCTION itself", u, false, 0,
                HOST, 14, HOST, 0, GUARD, 14, HOST, 14, HOST, 0, HOST, 15);
        Used one = new Used();
        one.function(1);
        code(one, 0, HOST, 0);
        is("no WAY of it: forge", one.forge(), 1);
        holds("one INSTRUCTION", one, true, 0, GUARD, 0, HOST, 0);
    }

    private static void forgeWhereTheyWent() {
        terms("JUMPS, TESTS, TARGETS, FROM and TO go to where what they went to is,"
                + " with its GUARD, if it has one now");
        Used u = new Used();
        u.always(1, true);
        u.function(5);
        code(u, 0, HOST, 1, TEST, 0, JUMP, 4, TEST, 3, HOST, 1);
        u.handler(0, 0, 5, 4);
        u.handler(0, 0, 1, 0);
        u.handler(0, 4, 5, 1);
        u.handler(0, 1, 4, 3);
        is("forge", u.forge(), 2);
        holds("the first and the last one", u, true, 0,
                GUARD, 1, HOST, 1, TEST, 0, JUMP, 5, TEST, 4, GUARD, 1, HOST, 1);
        ranges("TO at the end", u, true, 0, 0, 7, 5);
        ranges("FROM and TARGET at the start", u, true, 1, 0, 2, 0);
        ranges("FROM at the last one", u, true, 2, 5, 7, 2);
        ranges("TO at the last one", u, true, 3, 2, 5, 4);
        ranges("the FUNCTION itself", u, false, 0, 0, 5, 4);
        is("CERTIFIED", u.certify(true), 0);
        Used full = new Used();
        full.always(1, true);
        full.function(199);
        code(full, 0, JUMP, 198, TEST, 0);
        full.code(0, 198, HOST, 1);
        full.handler(0, 198, 199, 198);
        is("forge up to 200", full.forge(), 1);
        is("JUMP to the last", full.of(true, 0, 0, 1), 198);
        is("TEST of the first", full.of(true, 0, 1, 1), 0);
        ranges("TO at 200", full, true, 0, 198, 200, 198);
    }

    private static void forgeLiesBeside() {
        terms("What is FORGED lies beside the FUNCTIONS");
        Used u = made(Edges::somethingForged);
        is("INSTRUCTIONS", u.look(4), 9);
        is("FORGED INSTRUCTIONS", u.look(5), 11);
        holds("FUNCTION 0", u, false, 0, HOST, 1, CALL, 1, GUARD, 2, HOST, 2, RETURN, 0);
        holds("FORGED 0", u, true, 0,
                GUARD, 1, HOST, 1, CALL, 1, GUARD, 2, HOST, 2, RETURN, 0);
        holds("FUNCTION 1", u, false, 1, RISK, 0, HOST, 15, TEST, 0, RETURN, 0);
        holds("FORGED 1", u, true, 1, RISK, 0, GUARD, 15, HOST, 15, TEST, 0, RETURN, 0);
        same("forge again changes nothing",
                b -> {
                    somethingForged(b);
                    b.forge();
                },
                Edges::somethingForged);
    }

    private static void forgeUntilTheyAreChanged() {
        terms("until they are changed");
        List<Consumer<Used>> changes = List.of(
                u -> is("begin", u.begin(3), true),
                u -> is("way", u.way(0, 0, 0), true),
                u -> is("always", u.always(0, true), true),
                u -> is("always, off", u.always(15, false), true),
                u -> is("function", u.function(200), 2),
                u -> is("code", u.code(1, 3, PLAIN, 0), true),
                u -> is("handler", u.handler(1, 3, 4, 3), true));
        for (Consumer<Used> change : changes) {
            Consumer<Used> without = Edges::something;
            Consumer<Used> with = Edges::somethingForged;
            nothingIsForged(made(with.andThen(change)));
            same("it is as if nothing had been FORGED",
                    with.andThen(change), without.andThen(change));
            same("also when it is FORGED anew",
                    with.andThen(change).andThen(Used::forge),
                    without.andThen(change).andThen(Used::forge));
        }
        Used taken = made(Edges::somethingForged);
        is("take", taken.take(), true);
        nothingIsForged(taken);
        Used none = new Used();
        none.forge();
        is("begin, without FUNCTIONS", none.begin(1), true);
        is("FORGED", none.look(3), 0);
    }

    private static void nothingIsForged(Used u) {
        is("FORGED", u.look(3), 0);
        is("FORGED INSTRUCTIONS", u.look(5), NONE);
        is("certify", u.certify(true), NONE);
        is("of", u.of(true, 0, 0, 0), NONE);
        is("may", u.may(true, 0, 0), 0);
        is("set", u.set(true, 0, 0), 0);
        is("size", u.size(true, 0, 0), NONE);
        is("range", u.range(true, 0, 0, 0), NONE);
        is("take", u.take(), false);
    }

    private static void takeTakesThePlace() {
        promise(9, "What was FORGED takes the place of the FUNCTIONS: true");
        Used u = made(Edges::somethingForged);
        is("take", u.take(), true);
        is("FUNCTIONS", u.look(2), 2);
        is("INSTRUCTIONS", u.look(4), 11);
        is("FORGED", u.look(3), 0);
        holds("FUNCTION 0", u, false, 0,
                GUARD, 1, HOST, 1, CALL, 1, GUARD, 2, HOST, 2, RETURN, 0);
        holds("FUNCTION 1", u, false, 1, RISK, 0, GUARD, 15, HOST, 15, TEST, 0, RETURN, 0);
        ranges("its HANDLER", u, false, 0, 0, 3, 5);
        is("the last INSTRUCTION can be changed", u.code(0, 5, RISK, 0), true);
        is("one more can not", u.code(0, 6, RISK, 0), false);
        Used none = new Used();
        none.forge();
        is("take, no FUNCTIONS", none.take(), true);
        is("FUNCTIONS", none.look(2), 0);
        Used eight = made(hosts(1, 1, 1, 1, 1, 1, 1, 1, 1));
        eight.forge();
        is("take, 8 FUNCTIONS", eight.take(), true);
        for (int f = 0; f < 8; f++) {
            holds("FUNCTION " + f, eight, false, f, GUARD, 15, HOST, 15);
        }
        Used full = made(hosts(1, 199));
        full.forge();
        is("take, 200 INSTRUCTIONS", full.take(), true);
        is("INSTRUCTIONS", full.size(false, 0, 0), 200);
        is("code of the last", full.code(0, 199, JUMP, 199), true);
        is("code of one more", full.code(0, 200, PLAIN, 0), false);
        is("handler to the end", full.handler(0, 199, 200, 199), true);
    }

    private static void takeOfNothing() {
        promise(9, "false if nothing is FORGED");
        refused("take of a new one", u -> { }, Used::take);
        refused("take before forge", Edges::something, Used::take);
        refused("take after take",
                u -> {
                    somethingForged(u);
                    u.take();
                },
                Used::take);
        refused("take after forge that was too long", hosts(1, 200).andThen(Used::forge),
                Used::take);
        refused("take after a change",
                u -> {
                    somethingForged(u);
                    u.way(0, 0, 0);
                },
                Used::take);
        refused("take after begin",
                u -> {
                    somethingForged(u);
                    u.begin(2);
                },
                Used::take);
    }

    private static void certifyIsZero() {
        promise(10, "Whether the FUNCTIONS (or what was FORGED) are CERTIFIED: 0");
        Used none = new Used();
        is("no FUNCTIONS", none.certify(false), 0);
        none.forge();
        is("no FUNCTIONS, FORGED", none.certify(true), 0);
        Used u = made(Edges::somethingForged);
        is("the FUNCTIONS are not", u.certify(false), 1);
        is("what was FORGED is", u.certify(true), 0);
        is("take", u.take(), true);
        is("the FUNCTIONS are now", u.certify(false), 0);
        is("all PLAIN", made(hosts(0, 200, 200, 200, 200, 200, 200, 200, 200)).certify(false), 0);
    }

    private static void certifyTellsThePlace() {
        promise(10, "1 more than 256 times the FUNCTION and the INSTRUCTION");
        int[][] places = {
            {0, 0, 1}, {0, 1, 2}, {0, 199, 200}, {1, 0, 257}, {1, 199, 456}, {7, 0, 1793},
            {7, 199, 1992},
        };
        for (int[] place : places) {
            for (int kind : new int[] {HOST, GUARD}) {
                Used u = made(hosts(0, 200, 200, 200, 200, 200, 200, 200, 200));
                u.code(place[0], place[1], kind, 15);
                is("KIND " + kind + " at " + place[0] + ", " + place[1],
                        u.certify(false), place[2]);
            }
        }
    }

    private static void certifyTellsTheFirst() {
        promise(10, "of the first that keeps them from that");
        Used u = made(hosts(0, 200, 200, 200, 200, 200, 200, 200, 200));
        int[][] places = {{7, 199}, {7, 0}, {1, 199}, {1, 0}, {0, 199}, {0, 1}, {0, 0}};
        for (int[] place : places) {
            u.code(place[0], place[1], HOST, 15);
            is("HOST at " + place[0] + ", " + place[1], u.certify(false),
                    256 * place[0] + place[1] + 1);
        }
        Used both = new Used();
        both.always(15, true);
        both.function(3);
        code(both, 0, GUARD, 15, HOST, 15, JUMP, 1);
        is("a GUARD ahead of the HOST that it does not guard", both.certify(false), 1);
        code(both, 0, HOST, 15, GUARD, 15, JUMP, 1);
        is("a HOST ahead of a GUARD", both.certify(false), 1);
        code(both, 0, PLAIN, 0);
        is("the GUARD behind it", both.certify(false), 2);
    }

    private static void certifyOfNothing() {
        promise(10, "NONE if nothing is FORGED and that is asked");
        refused("certify(true) of a new one", u -> { }, u -> u.certify(true), NONE);
        refused("certify(true) before forge", Edges::something, u -> u.certify(true), NONE);
        refused("certify(true) after take",
                u -> {
                    somethingForged(u);
                    u.take();
                },
                u -> u.certify(true), NONE);
        refused("certify(true) after forge that was too long",
                hosts(1, 200).andThen(Used::forge), u -> u.certify(true), NONE);
        is("certify(false), nothing FORGED", made(Edges::something).certify(false), 1);
    }

    private static void certifiedHosts() {
        terms("FUNCTIONS are CERTIFIED if each HOST that NEEDS a GUARD is GUARDED");
        Used u = new Used();
        u.function(2);
        u.way(3, 0, 0);
        code(u, 0, RETURN, 0, HOST, 4);
        is("a HOST that is not reached NEEDS none", u.certify(false), 0);
        code(u, 0, HOST, 3, HOST, 4);
        is("the one that NEEDS none is passed over", u.certify(false), 2);
        code(u, 0, GUARD, 4, HOST, 4);
        is("GUARDED", u.certify(false), 0);
        code(u, 0, GUARD, 3, HOST, 3);
        is("GUARDED without need", u.certify(false), 0);
    }

    private static void certifiedGuards() {
        terms("each GUARD c has a HOST c just behind it that is GUARDED");
        Used u = new Used();
        u.way(0, 0, 0);
        u.way(1, 0, 0);
        u.function(3);
        code(u, 0, PLAIN, 0, PLAIN, 0, GUARD, 0);
        is("a GUARD that is the last one", u.certify(false), 3);
        code(u, 0, HOST, 0);
        is("a HOST at the start is not behind the last one", u.certify(false), 3);
        code(u, 0, GUARD, 0, HOST, 0, PLAIN, 0);
        is("a HOST just behind", u.certify(false), 0);
        code(u, 0, GUARD, 0, HOST, 1, PLAIN, 0);
        is("a HOST of another", u.certify(false), 1);
        code(u, 0, GUARD, 0, PLAIN, 0, HOST, 0);
        is("a HOST two behind", u.certify(false), 1);
        code(u, 0, GUARD, 0, GUARD, 0, HOST, 0);
        is("a GUARD behind a GUARD", u.certify(false), 1);
        code(u, 0, GUARD, 0, HOST, 0, TEST, 1);
        is("a HOST that is gone to", u.certify(false), 1);
        code(u, 0, RETURN, 0, GUARD, 0, HOST, 1);
        is("one that is not reached", u.certify(false), 2);
        Used last = new Used();
        last.function(200);
        last.function(1);
        last.code(0, 199, GUARD, 15);
        last.code(1, 0, HOST, 15);
        is("the HOST of the next FUNCTION is not behind it", last.certify(false), 200);
    }
}

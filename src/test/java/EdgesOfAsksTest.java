import java.util.function.Consumer;

/** The edges of promises 11 to 15 and 17: of, may, set, size, range, look. */
public final class EdgesOfAsksTest extends Edges {
    public static void main(String[] args) {
        ofWhats();
        ofOfWhatWasForged();
        ofHowMany();
        ofNoneSuch();
        ofNoSuchWhat();
        mayBits();
        mayNoneSuch();
        setWhats();
        setNoneSuch();
        setNoSuchWhat();
        sizeWhats();
        sizeNoneSuch();
        sizeNoSuchWhat();
        rangeWhats();
        rangeNoneSuch();
        rangeNoSuchWhat();
        lookWhiches();
        lookForged();
        lookForgedInstructions();
        lookAnyOther();
        end();
    }

    /** As much as there can be: 8 FUNCTIONS of 199, and 200 when FORGED; 6 HANDLERS of the last. */
    private static void most(Used u) {
        u.begin(60);
        u.way(0, 0, 59);
        for (int call = 0; call <= 15; call++) {
            u.always(call, true);
        }
        for (int f = 0; f < 8; f++) {
            u.function(199);
            u.code(f, 198, HOST, 15);
        }
        for (int k = 0; k < 6; k++) {
            u.handler(7, k, 199, 198);
        }
        u.forge();
    }

    private static void ofWhats() {
        promise(11, "what 0: KIND, 1: its number, 2: 1 if it is a HOST that is GUARDED, else 0,"
                + " 3: 1 if it is a HOST that NEEDS a GUARD, else 0,"
                + " 4: how many STATES its MAY has");
        Used u = made(Edges::something);
        int[][] due = {
            {HOST, 1, 0, 1, 1}, {CALL, 1, 0, 0, 1}, {GUARD, 2, 0, 0, 0}, {HOST, 2, 1, 0, 0},
            {RETURN, 0, 0, 0, 1},
        };
        // Nothing comes back from FUNCTION 1 then.
        u.code(1, 3, THROW, 0);
        for (int i = 0; i < 5; i++) {
            for (int what = 0; what <= 4; what++) {
                is("of(false, 0, " + i + ", " + what + ")",
                        u.of(false, 0, i, what), due[i][what]);
            }
        }
        is("the last of the last FUNCTION, KIND", u.of(false, 1, 3, 0), THROW);
        is("the last of the last FUNCTION, MAY", u.of(false, 1, 3, 4), 1);
    }

    private static void ofOfWhatWasForged() {
        promise(11, "Of an INSTRUCTION of a FUNCTION (or of what was FORGED)");
        Used u = made(EdgesOfAsksTest::most);
        is("the last, KIND", u.of(false, 7, 198, 0), HOST);
        is("the last, number", u.of(false, 7, 198, 1), 15);
        is("the last, GUARDED", u.of(false, 7, 198, 2), 0);
        is("the last, NEEDS one", u.of(false, 7, 198, 3), 1);
        is("one more", u.of(false, 7, 199, 0), NONE);
        is("FORGED, its GUARD", u.of(true, 7, 198, 0), GUARD);
        is("FORGED, the last, KIND", u.of(true, 7, 199, 0), HOST);
        is("FORGED, the last, number", u.of(true, 7, 199, 1), 15);
        is("FORGED, the last, GUARDED", u.of(true, 7, 199, 2), 1);
        is("FORGED, the last, NEEDS one", u.of(true, 7, 199, 3), 1);
        is("FORGED, the last, MAY", u.of(true, 7, 199, 4), 0);
        is("FORGED, one more", u.of(true, 7, 200, 0), NONE);
        is("FORGED, no such FUNCTION", u.of(true, 8, 0, 0), NONE);
    }

    private static void ofHowMany() {
        promise(11, "how many STATES its MAY has");
        for (int states : new int[] {1, 31, 32, 33, 59, 60}) {
            Used u = new Used();
            u.begin(states);
            for (int s = 0; s < states; s++) {
                u.way(0, 0, s);
            }
            u.way(1, 0, NONE);
            u.function(3);
            code(u, 0, HOST, 0, TEST, 0, HOST, 1);
            is("MAY of the second", u.of(false, 0, 1, 4), states);
            is("MAY of the third", u.of(false, 0, 2, 4), states);
            u.code(0, 0, HOST, 1);
            is("MAY of none", u.of(false, 0, 1, 4), 0);
            is("MAY of the first", u.of(false, 0, 0, 4), 1);
        }
    }

    /** Each what of `of`, with one argument that is none. */
    private static void ofIsNone(String told, Consumer<Used> before, boolean forged, int f, int i) {
        for (int what = 0; what <= 4; what++) {
            int w = what;
            refused("of(" + forged + ", " + f + ", " + i + ", " + w + ")" + told, before,
                    u -> u.of(forged, f, i, w), NONE);
        }
    }

    private static void ofNoneSuch() {
        promise(11, "NONE if there is none such");
        Used there = made(Edges::somethingForged);
        is("the first of the first", there.of(false, 0, 0, 0), HOST);
        is("the last of the first", there.of(false, 0, 4, 0), RETURN);
        is("the last of the last", there.of(false, 1, 3, 0), RETURN);
        is("FORGED, the first of the first", there.of(true, 0, 0, 0), GUARD);
        is("FORGED, the last of the first", there.of(true, 0, 5, 0), RETURN);
        is("FORGED, the last of the last", there.of(true, 1, 4, 0), RETURN);
        for (int f : beside(0, 1)) {
            ofIsNone("", Edges::somethingForged, false, f, 0);
            ofIsNone("", Edges::somethingForged, true, f, 0);
        }
        for (int i : beside(0, 4)) {
            ofIsNone("", Edges::somethingForged, false, 0, i);
        }
        for (int i : beside(0, 5)) {
            ofIsNone("", Edges::somethingForged, true, 0, i);
        }
        ofIsNone(" of a new one", u -> { }, false, 0, 0);
        ofIsNone(", nothing FORGED", Edges::something, true, 0, 0);
    }

    private static void ofNoSuchWhat() {
        promise(11, "or no such what");
        for (boolean forged : new boolean[] {false, true}) {
            Used there = made(Edges::somethingForged);
            is("of(" + forged + ", 0, 0, 0)", there.of(forged, 0, 0, 0), forged ? GUARD : HOST);
            is("of(" + forged + ", 0, 0, 4)", there.of(forged, 0, 0, 4), 1);
        }
        for (int what : beside(0, 4)) {
            for (boolean forged : new boolean[] {false, true}) {
                refused("of(" + forged + ", 0, 0, " + what + ")", Edges::somethingForged,
                        u -> u.of(forged, 0, 0, what), NONE);
            }
        }
    }

    private static void mayBits() {
        promise(12, "MAY of it, bit s for STATE s");
        for (int s : new int[] {0, 1, 30, 31, 32, 33, 58, 59}) {
            Used u = new Used();
            u.begin(60);
            u.way(15, 0, s);
            u.function(2);
            code(u, 0, HOST, 15, RETURN, 0);
            is("STATE " + s, u.may(false, 0, 1), 1L << s);
            is("how many", u.of(false, 0, 1, 4), 1);
            is("EXIT", u.set(false, 0, 1), 1L << s);
            is("ALL", u.set(false, 0, 2), 1L | 1L << s);
            u.forge();
            is("FORGED, STATE " + s, u.may(true, 0, u.size(true, 0, 0) - 1), 1L << s);
        }
        Used all = new Used();
        all.begin(60);
        for (int s = 0; s < 60; s++) {
            all.way(0, 0, s);
        }
        all.way(0, 0, NONE);
        all.function(2);
        code(all, 0, HOST, 0, RETURN, 0);
        is("all 60, and none for nowhere", all.may(false, 0, 1), (1L << 60) - 1);
        is("EXIT", all.set(false, 0, 1), (1L << 60) - 1);
        is("ALL", all.set(false, 0, 2), (1L << 60) - 1);
    }

    private static void mayNoneSuch() {
        promise(12, "0 if there is none such");
        for (int f : beside(0, 1)) {
            refused("may(false, " + f + ", 0)", Edges::somethingForged,
                    u -> u.may(false, f, 0), 0);
            refused("may(true, " + f + ", 0)", Edges::somethingForged,
                    u -> u.may(true, f, 0), 0);
        }
        for (int i : beside(0, 4)) {
            refused("may(false, 0, " + i + ")", Edges::somethingForged,
                    u -> u.may(false, 0, i), 0);
        }
        for (int i : beside(0, 5)) {
            refused("may(true, 0, " + i + ")", Edges::somethingForged,
                    u -> u.may(true, 0, i), 0);
        }
        refused("may(false, 0, 0) of a new one", u -> { }, u -> u.may(false, 0, 0), 0);
        refused("may(true, 0, 0), nothing FORGED", Edges::something, u -> u.may(true, 0, 0), 0);
        Used u = made(Edges::somethingForged);
        is("the last of the FUNCTION", u.may(false, 0, 4), 4);
        is("the last of what was FORGED", u.may(true, 0, 5), 4);
        Used full = new Used();
        full.function(200);
        is("the last of 200", full.may(false, 0, 199), 1);
        is("one more than 200", full.may(false, 0, 200), 0);
    }

    private static void setWhats() {
        promise(13, "what 0: ENTRY, 1: EXIT, 2: ALL, likewise");
        Used u = new Used();
        u.begin(60);
        u.way(0, 0, 59);
        u.way(1, 59, 58);
        u.function(3);
        u.function(2);
        code(u, 0, HOST, 0, CALL, 1, PLAIN, 0);
        code(u, 1, HOST, 1, RETURN, 0);
        u.forge();
        for (boolean forged : new boolean[] {false, true}) {
            is("ENTRY of 0", u.set(forged, 0, 0), 1);
            is("EXIT of 0", u.set(forged, 0, 1), 0);
            is("ALL of 0", u.set(forged, 0, 2), 1 | 1L << 59 | 1L << 58);
            is("ENTRY of 1", u.set(forged, 1, 0), 1L << 59);
            is("EXIT of 1", u.set(forged, 1, 1), 1L << 58);
            is("ALL of 1", u.set(forged, 1, 2), 1L << 59 | 1L << 58);
        }
    }

    private static void setNoneSuch() {
        promise(13, "0 if there is none such");
        for (int what = 0; what <= 2; what++) {
            int w = what;
            for (int f : beside(0, 1)) {
                refused("set(false, " + f + ", " + w + ")", Edges::somethingForged,
                        u -> u.set(false, f, w), 0);
                refused("set(true, " + f + ", " + w + ")", Edges::somethingForged,
                        u -> u.set(true, f, w), 0);
            }
            refused("set(false, 0, " + w + ") of a new one", u -> { }, u -> u.set(false, 0, w), 0);
            refused("set(true, 0, " + w + "), nothing FORGED", Edges::something,
                    u -> u.set(true, 0, w), 0);
        }
        Used u = new Used();
        for (int f = 0; f < 8; f++) {
            u.function(1);
            u.code(f, 0, CALL, f + 1 & 7);
        }
        is("ENTRY of FUNCTION 7", u.set(false, 7, 0), 1);
        is("ENTRY of FUNCTION 8", u.set(false, 8, 0), 0);
    }

    private static void setNoSuchWhat() {
        promise(13, "or no such what");
        for (boolean forged : new boolean[] {false, true}) {
            Used there = made(Edges::somethingForged);
            is("set(" + forged + ", 0, 0)", there.set(forged, 0, 0), 1);
            is("set(" + forged + ", 0, 2)", there.set(forged, 0, 2), 5);
        }
        for (int what : beside(0, 2)) {
            for (boolean forged : new boolean[] {false, true}) {
                refused("set(" + forged + ", 0, " + what + ")", Edges::somethingForged,
                        u -> u.set(forged, 0, what), 0);
            }
        }
    }

    private static void sizeWhats() {
        promise(14, "what 0: INSTRUCTIONS, 1: HANDLERS, 2: HOSTS, 3: GUARDS,"
                + " 4: INSTRUCTIONS whose MAY has one");
        Used u = made(EdgesOfAsksTest::most);
        long[] first = {199, 0, 1, 0, 199};
        long[] last = {199, 6, 1, 0, 0};
        long[] firstForged = {200, 0, 1, 1, 199};
        long[] lastForged = {200, 6, 1, 1, 0};
        for (int what = 0; what <= 4; what++) {
            is("size(false, 0, " + what + ")", u.size(false, 0, what), first[what]);
            is("size(false, 7, " + what + ")", u.size(false, 7, what), last[what]);
            is("size(true, 0, " + what + ")", u.size(true, 0, what), firstForged[what]);
            is("size(true, 7, " + what + ")", u.size(true, 7, what), lastForged[what]);
        }
        for (int kind : new int[] {HOST, GUARD}) {
            Used full = new Used();
            full.way(3, 0, 0);
            full.function(200);
            for (int i = 0; i < 200; i++) {
                full.code(0, i, kind, 3);
            }
            is("HOSTS", full.size(false, 0, 2), kind == HOST ? 200 : 0);
            is("GUARDS", full.size(false, 0, 3), kind == GUARD ? 200 : 0);
            is("reached", full.size(false, 0, 4), 200);
        }
    }

    private static void sizeNoneSuch() {
        promise(14, "NONE if there is none such");
        Used there = made(Edges::somethingForged);
        is("size(false, 0, 0)", there.size(false, 0, 0), 5);
        is("size(false, 1, 0)", there.size(false, 1, 0), 4);
        is("size(true, 0, 0)", there.size(true, 0, 0), 6);
        is("size(true, 1, 0)", there.size(true, 1, 0), 5);
        for (int what = 0; what <= 4; what++) {
            int w = what;
            for (int f : beside(0, 1)) {
                refused("size(false, " + f + ", " + w + ")", Edges::somethingForged,
                        u -> u.size(false, f, w), NONE);
                refused("size(true, " + f + ", " + w + ")", Edges::somethingForged,
                        u -> u.size(true, f, w), NONE);
            }
            refused("size(false, 0, " + w + ") of a new one", u -> { },
                    u -> u.size(false, 0, w), NONE);
            refused("size(true, 0, " + w + "), nothing FORGED", Edges::something,
                    u -> u.size(true, 0, w), NONE);
        }
    }

    private static void sizeNoSuchWhat() {
        promise(14, "or no such what");
        for (boolean forged : new boolean[] {false, true}) {
            Used there = made(Edges::somethingForged);
            is("size(" + forged + ", 1, 0)", there.size(forged, 1, 0), forged ? 5 : 4);
            is("size(" + forged + ", 1, 4)", there.size(forged, 1, 4), 3);
        }
        for (int what : beside(0, 4)) {
            for (boolean forged : new boolean[] {false, true}) {
                refused("size(" + forged + ", 0, " + what + ")", Edges::somethingForged,
                        u -> u.size(forged, 0, what), NONE);
            }
        }
    }

    private static void rangeWhats() {
        promise(15, "Of HANDLER k of it: what 0: FROM, 1: TO, 2: TARGET");
        Used u = made(EdgesOfAsksTest::most);
        for (int k = 0; k < 6; k++) {
            is("FROM of " + k, u.range(false, 7, k, 0), k);
            is("TO of " + k, u.range(false, 7, k, 1), 199);
            is("TARGET of " + k, u.range(false, 7, k, 2), 198);
            is("FORGED, FROM of " + k, u.range(true, 7, k, 0), k);
            is("FORGED, TO of " + k, u.range(true, 7, k, 1), 200);
            is("FORGED, TARGET of " + k, u.range(true, 7, k, 2), 198);
        }
    }

    private static void rangeNoneSuch() {
        promise(15, "NONE if there is none such");
        for (int what = 0; what <= 2; what++) {
            int w = what;
            for (boolean forged : new boolean[] {false, true}) {
                for (int f : beside(0, 1)) {
                    refused("range(" + forged + ", " + f + ", 0, " + w + ")",
                            Edges::somethingForged, u -> u.range(forged, f, 0, w), NONE);
                }
                for (int k : beside(0, 0)) {
                    refused("range(" + forged + ", 0, " + k + ", " + w + ")",
                            Edges::somethingForged, u -> u.range(forged, 0, k, w), NONE);
                }
            }
            refused("range(false, 0, 0, " + w + ") of a new one", u -> { },
                    u -> u.range(false, 0, 0, w), NONE);
            refused("range(false, 0, 0, " + w + "), no HANDLERS", u -> u.function(3),
                    u -> u.range(false, 0, 0, w), NONE);
            refused("range(true, 0, 0, " + w + "), nothing FORGED", Edges::something,
                    u -> u.range(true, 0, 0, w), NONE);
        }
        Used u = made(EdgesOfAsksTest::most);
        for (int k : beside(0, 5)) {
            is("range(false, 7, " + k + ", 0) of six", u.range(false, 7, k, 0), NONE);
            is("range(true, 7, " + k + ", 0) of six", u.range(true, 7, k, 0), NONE);
        }
        u.begin(1);
        u.function(5);
        is("one that was there before begin", u.range(false, 0, 0, 0), NONE);
    }

    private static void rangeNoSuchWhat() {
        promise(15, "or no such what");
        for (boolean forged : new boolean[] {false, true}) {
            Used there = made(Edges::somethingForged);
            is("range(" + forged + ", 0, 0, 0)", there.range(forged, 0, 0, 0), 0);
            is("range(" + forged + ", 0, 0, 2)", there.range(forged, 0, 0, 2), forged ? 5 : 4);
        }
        for (int what : beside(0, 2)) {
            for (boolean forged : new boolean[] {false, true}) {
                refused("range(" + forged + ", 0, 0, " + what + ")", Edges::somethingForged,
                        u -> u.range(forged, 0, 0, what), NONE);
            }
        }
    }

    private static void lookWhiches() {
        promise(17, "which 0: STATES, 1: WAYS, 2: FUNCTIONS, 3: 1 if something is FORGED, else 0,"
                + " 4: INSTRUCTIONS of the FUNCTIONS, 5: of what was FORGED (NONE without that),"
                + " 6: CALLS that need a GUARD always");
        Used none = new Used();
        long[] least = {1, 0, 0, 0, 0, NONE, 0};
        Used all = made(EdgesOfAsksTest::most);
        long[] most = {60, 1, 8, 1, 8 * 199, 8 * 200, 16};
        for (int which = 0; which <= 6; which++) {
            is("look(" + which + ") of a new one", none.look(which), least[which]);
            is("look(" + which + ") of as much as there can be", all.look(which), most[which]);
        }
        Used ways = new Used();
        ways.begin(5);
        for (int call = 0; call <= 15; call++) {
            for (int from = 0; from < 5; from++) {
                for (int to = -1; to < 5; to++) {
                    ways.way(call, from, to);
                }
            }
        }
        is("all WAYS of 5 STATES", ways.look(1), 16 * 5 * 6);
    }

    private static void lookForged() {
        promise(17, "3: 1 if something is FORGED, else 0");
        Used u = new Used();
        is("a new one", u.look(3), 0);
        u.forge();
        is("FORGED of nothing is something", u.look(3), 1);
        u.take();
        is("taken", u.look(3), 0);
        u.forge();
        u.begin(1);
        is("begun anew", u.look(3), 0);
    }

    private static void lookForgedInstructions() {
        promise(17, "5: of what was FORGED (NONE without that)");
        Used u = new Used();
        is("a new one", u.look(5), NONE);
        u.forge();
        is("of no FUNCTIONS", u.look(5), 0);
        u.function(200);
        is("changed", u.look(5), NONE);
        u.forge();
        is("of 200", u.look(5), 200);
        u.code(0, 0, HOST, 0);
        is("forge", u.forge(), -2);
        is("too long", u.look(5), NONE);
    }

    private static void lookAnyOther() {
        promise(17, "NONE for any other which");
        is("look(0)", made(Edges::somethingForged).look(0), 3);
        is("look(6)", made(Edges::somethingForged).look(6), 1);
        for (int which : beside(0, 6)) {
            refused("look(" + which + ")", Edges::somethingForged, u -> u.look(which), NONE);
            refused("look(" + which + ") of a new one", u -> { }, u -> u.look(which), NONE);
        }
    }
}

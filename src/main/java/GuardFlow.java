/**
 * Where guards have to be: which STATES may be there at each INSTRUCTION of some FUNCTIONS, which
 * HOSTS need a GUARD by that, and the FUNCTIONS with the lacking GUARDS put in.
 *
 * <p>The words in capitals are those of the document's 'Terms'.
 */
public final class GuardFlow {
    public static final int NONE = -1;

    private static final int TOO_LONG = -2;

    private static final int MOST_STATES = 60;
    private static final int CALLS_OUTSIDE = 16;
    private static final int MOST_FUNCTIONS = 8;
    private static final int MOST_INSTRUCTIONS = 200;
    private static final int MOST_HANDLERS = 6;

    private static final int PLAIN = 0;
    private static final int JUMP = 1;
    private static final int TEST = 2;
    private static final int CALL = 3;
    private static final int HOST = 4;
    private static final int GUARD = 5;
    private static final int RETURN = 6;
    private static final int THROW = 7;
    private static final int RISK = 8;

    private final Table table;
    private final Flow flow;
    private final Forger forger;
    private Program current;
    private Program beside;
    private boolean somethingForged;

    public GuardFlow() {
        table = new Table();
        flow = new Flow(table);
        forger = new Forger(table);
        current = new Program();
        beside = new Program();
    }

    public boolean begin(int states) {
        if (states < 1 || states > MOST_STATES) {
            return false;
        }
        table.renew(states);
        current.clear();
        somethingForged = false;
        return true;
    }

    public boolean way(int call, int from, int to) {
        if (!table.canBe(call, from, to) || table.hasWay(call, from, to)) {
            return false;
        }
        table.addWay(call, from, to);
        noteChange();
        return true;
    }

    public boolean always(int call, boolean on) {
        if (!table.isCall(call) || table.always[call] == on) {
            return false;
        }
        table.always[call] = on;
        noteChange();
        return true;
    }

    public int function(int n) {
        Body made = current.append(n);
        if (made == null) {
            return NONE;
        }
        noteChange();
        return made.place;
    }

    public boolean code(int function, int i, int kind, int number) {
        Body body = current.body(function);
        if (body == null || !body.hasInstruction(i) || !body.canHold(kind, number)) {
            return false;
        }
        body.put(i, kind, number);
        noteChange();
        return true;
    }

    public boolean handler(int function, int from, int to, int target) {
        Body body = current.body(function);
        if (body == null || !body.canHandle(from, to, target)) {
            return false;
        }
        body.addHandler(from, to, target);
        noteChange();
        return true;
    }

    public int forge() {
        flow.settle(current);
        int lacking = forger.countLacking(current);
        if (lacking < 0) {
            return TOO_LONG;
        }
        forger.copyWithGuards(current, beside);
        somethingForged = true;
        return lacking;
    }

    public boolean take() {
        if (!somethingForged) {
            return false;
        }
        // The two change places, so that the rows of the old one serve the next forge.
        Program old = current;
        current = beside;
        beside = old;
        somethingForged = false;
        return true;
    }

    public int certify(boolean forged) {
        Program program = programOf(forged);
        if (program == null) {
            return NONE;
        }
        flow.settle(program);
        for (int f = 0; f < MOST_FUNCTIONS; f++) {
            Body body = program.body(f);
            int i = body == null ? NONE : firstUncertified(body);
            if (i != NONE) {
                return 256 * f + i + 1;
            }
        }
        return 0;
    }

    public int of(boolean forged, int function, int i, int what) {
        Body body = settledBody(forged, function);
        if (body == null || !body.hasInstruction(i)) {
            return NONE;
        }
        switch (what) {
            case 0:
                return body.kind[i];
            case 1:
                return body.number[i];
            case 2:
                return body.isGuarded(i) ? 1 : 0;
            case 3:
                return table.needsGuard(body, i) ? 1 : 0;
            case 4:
                return Long.bitCount(body.may[i]);
            default:
                return NONE;
        }
    }

    public long may(boolean forged, int function, int i) {
        Body body = settledBody(forged, function);
        return body == null || !body.hasInstruction(i) ? 0L : body.may[i];
    }

    public long set(boolean forged, int function, int what) {
        Body body = settledBody(forged, function);
        if (body == null) {
            return 0L;
        }
        switch (what) {
            case 0:
                return body.entry;
            case 1:
                return body.exit;
            case 2:
                return body.all;
            default:
                return 0L;
        }
    }

    public int size(boolean forged, int function, int what) {
        Body body = settledBody(forged, function);
        if (body == null) {
            return NONE;
        }
        switch (what) {
            case 0:
                return body.length;
            case 1:
                return body.handlers;
            case 2:
                return body.countOfKind(HOST);
            case 3:
                return body.countOfKind(GUARD);
            case 4:
                return body.countReached();
            default:
                return NONE;
        }
    }

    public int range(boolean forged, int function, int k, int what) {
        Program program = programOf(forged);
        Body body = program == null ? null : program.body(function);
        if (body == null || k < 0 || k >= body.handlers) {
            return NONE;
        }
        switch (what) {
            case 0:
                return body.from[k];
            case 1:
                return body.to[k];
            case 2:
                return body.target[k];
            default:
                return NONE;
        }
    }

    public boolean goes(int call, int from, int to) {
        return table.canBe(call, from, to) && table.hasWay(call, from, to);
    }

    public int look(int which) {
        switch (which) {
            case 0:
                return table.states;
            case 1:
                return table.wayCount;
            case 2:
                return current.count;
            case 3:
                return somethingForged ? 1 : 0;
            case 4:
                return current.countInstructions();
            case 5:
                return somethingForged ? beside.countInstructions() : NONE;
            case 6:
                return table.countAlways();
            default:
                return NONE;
        }
    }

    private void noteChange() {
        current.settled = false;
        somethingForged = false;
    }

    private Program programOf(boolean forged) {
        if (!forged) {
            return current;
        }
        return somethingForged ? beside : null;
    }

    private Body settledBody(boolean forged, int function) {
        Program program = programOf(forged);
        Body body = program == null ? null : program.body(function);
        if (body != null) {
            flow.settle(program);
        }
        return body;
    }

    private int firstUncertified(Body body) {
        for (int i = 0; i < body.length; i++) {
            // A GUARDED INSTRUCTION behind a GUARD is by itself a HOST of the same number.
            boolean idleGuard = body.kind[i] == GUARD && !body.isGuarded(i + 1);
            if (idleGuard || table.lacksGuard(body, i)) {
                return i;
            }
        }
        return NONE;
    }

    /** The STATES, and what CALLS OUTSIDE do to them. */
    private static final class Table {
        /** Beside the bits of 60 STATES there is room in a long for one more, that of nowhere. */
        private static final int NOWHERE = MOST_STATES;
        private static final long ALL_STATES = (1L << MOST_STATES) - 1L;

        final boolean[] always = new boolean[CALLS_OUTSIDE];
        private final long[] ways = new long[CALLS_OUTSIDE * MOST_STATES];
        int states = 1;
        int wayCount;

        void renew(int newStates) {
            states = newStates;
            wayCount = 0;
            for (int w = 0; w < ways.length; w++) {
                ways[w] = 0L;
            }
            for (int c = 0; c < CALLS_OUTSIDE; c++) {
                always[c] = false;
            }
        }

        boolean isCall(int call) {
            return call >= 0 && call < CALLS_OUTSIDE;
        }

        boolean canBe(int call, int from, int to) {
            return isCall(call) && isState(from) && (to == NONE || isState(to));
        }

        private boolean isState(int state) {
            return state >= 0 && state < states;
        }

        boolean hasWay(int call, int from, int to) {
            return (waysFrom(call, from) & bitOf(to)) != 0L;
        }

        void addWay(int call, int from, int to) {
            ways[call * MOST_STATES + from] |= bitOf(to);
            wayCount++;
        }

        private long waysFrom(int call, int from) {
            return ways[call * MOST_STATES + from];
        }

        private static long bitOf(int to) {
            return 1L << (to == NONE ? NOWHERE : to);
        }

        int countAlways() {
            int told = 0;
            for (int c = 0; c < CALLS_OUTSIDE; c++) {
                told += always[c] ? 1 : 0;
            }
            return told;
        }

        /** The STATES to which a CALL OUTSIDE goes from one of a set. */
        long goneTo(int call, long set) {
            long gone = 0L;
            for (int s = 0; s < states; s++) {
                if ((set >> s & 1L) != 0L) {
                    gone |= waysFrom(call, s);
                }
            }
            return gone & ALL_STATES;
        }

        boolean needsGuard(Body body, int i) {
            if (body.kind[i] != HOST) {
                return false;
            }
            int call = body.number[i];
            return always[call] || changesSome(call, body.may[i]);
        }

        boolean lacksGuard(Body body, int i) {
            return needsGuard(body, i) && !body.isGuarded(i);
        }

        private boolean changesSome(int call, long set) {
            for (int s = 0; s < states; s++) {
                // One WAY alone, from a STATE to itself, is the only case that needs no GUARD.
                if ((set >> s & 1L) != 0L && waysFrom(call, s) != bitOf(s)) {
                    return true;
                }
            }
            return false;
        }
    }

    /** One FUNCTION: its INSTRUCTIONS and HANDLERS, and the sets that Flow finds for them. */
    private static final class Body {
        final int place;
        final int[] kind = new int[MOST_INSTRUCTIONS];
        final int[] number = new int[MOST_INSTRUCTIONS];
        final int[] from = new int[MOST_HANDLERS];
        final int[] to = new int[MOST_HANDLERS];
        final int[] target = new int[MOST_HANDLERS];
        int length;
        int handlers;

        final long[] may = new long[MOST_INSTRUCTIONS];
        final boolean[] waiting = new boolean[MOST_INSTRUCTIONS];
        private final boolean[] aimedAt = new boolean[MOST_INSTRUCTIONS];
        long entry;
        long exit;
        long all;
        boolean grown;

        Body(int place) {
            this.place = place;
        }

        void renew(int newLength) {
            length = newLength;
            handlers = 0;
            for (int i = 0; i < length; i++) {
                put(i, PLAIN, 0);
            }
        }

        boolean hasInstruction(int i) {
            return i >= 0 && i < length;
        }

        boolean canHold(int newKind, int newNumber) {
            switch (newKind) {
                case JUMP:
                case TEST:
                    return hasInstruction(newNumber);
                case CALL:
                    return newNumber >= 0 && newNumber < MOST_FUNCTIONS;
                case HOST:
                case GUARD:
                    return newNumber >= 0 && newNumber < CALLS_OUTSIDE;
                case PLAIN:
                case RETURN:
                case THROW:
                case RISK:
                    return newNumber == 0;
                default:
                    return false;
            }
        }

        void put(int i, int newKind, int newNumber) {
            kind[i] = newKind;
            number[i] = newNumber;
        }

        boolean goesToNumber(int i) {
            return kind[i] == JUMP || kind[i] == TEST;
        }

        boolean canHandle(int newFrom, int newTo, int newTarget) {
            return handlers < MOST_HANDLERS
                    && newFrom >= 0 && newFrom < newTo && newTo <= length
                    && hasInstruction(newTarget);
        }

        void addHandler(int newFrom, int newTo, int newTarget) {
            from[handlers] = newFrom;
            to[handlers] = newTo;
            target[handlers] = newTarget;
            handlers++;
        }

        /** Holds only since the last forgetSets, which looks where JUMPS, TESTS and HANDLERS go. */
        boolean isGuarded(int i) {
            return i > 0 && i < length
                    && kind[i] == HOST && kind[i - 1] == GUARD
                    && number[i] == number[i - 1] && !aimedAt[i];
        }

        int countOfKind(int wanted) {
            int found = 0;
            for (int i = 0; i < length; i++) {
                found += kind[i] == wanted ? 1 : 0;
            }
            return found;
        }

        int countReached() {
            int reached = 0;
            for (int i = 0; i < length; i++) {
                reached += may[i] != 0L ? 1 : 0;
            }
            return reached;
        }

        void forgetSets() {
            entry = 0L;
            exit = 0L;
            all = 0L;
            grown = false;
            for (int i = 0; i < length; i++) {
                may[i] = 0L;
                waiting[i] = false;
                aimedAt[i] = false;
            }
            for (int i = 0; i < length; i++) {
                if (goesToNumber(i)) {
                    aimedAt[number[i]] = true;
                }
            }
            for (int k = 0; k < handlers; k++) {
                aimedAt[target[k]] = true;
            }
        }
    }

    /** Some FUNCTIONS; their rows are made when first wanted, and then kept for all later ones. */
    private static final class Program {
        private final Body[] bodies = new Body[MOST_FUNCTIONS];
        int count;
        /** Whether the sets in the bodies are those of their INSTRUCTIONS and of the WAYS. */
        boolean settled;

        void clear() {
            count = 0;
            settled = false;
        }

        Body body(int f) {
            return f >= 0 && f < count ? bodies[f] : null;
        }

        Body append(int length) {
            if (length < 1 || length > MOST_INSTRUCTIONS || count >= MOST_FUNCTIONS) {
                return null;
            }
            Body made = bodies[count];
            if (made == null) {
                made = new Body(count);
                bodies[count] = made;
            }
            made.renew(length);
            count++;
            settled = false;
            return made;
        }

        int countInstructions() {
            int sum = 0;
            for (int f = 0; f < count; f++) {
                Body body = body(f);
                sum += body == null ? 0 : body.length;
            }
            return sum;
        }
    }

    /** Finds the least sets: what has grown waits on a stack until it is passed on. */
    private static final class Flow {
        /**
         * Far above what is needed: one of 1600 INSTRUCTIONS waits again only if its MAY, or EXIT
         * or ALL of what it calls, has got one of 60 STATES more.
         */
        private static final int MOST_STEPS = 1000000;

        private final Table table;
        private final int[] stack = new int[MOST_FUNCTIONS * MOST_INSTRUCTIONS];
        private int top;
        private boolean someGrown;

        Flow(Table table) {
            this.table = table;
        }

        void settle(Program program) {
            if (program.settled) {
                return;
            }
            forgetAll(program);
            Body first = program.body(0);
            if (first != null) {
                growEntry(first, 1L);
            }
            for (int n = 0; n < MOST_STEPS && (top > 0 || someGrown); n++) {
                if (top > 0) {
                    top--;
                    step(program, stack[top]);
                } else {
                    wakeCallers(program);
                }
            }
            program.settled = true;
        }

        private void forgetAll(Program program) {
            top = 0;
            someGrown = false;
            for (int f = 0; f < MOST_FUNCTIONS; f++) {
                Body body = program.body(f);
                if (body != null) {
                    body.forgetSets();
                }
            }
        }

        private void step(Program program, int spot) {
            Body body = program.body(spot / MOST_INSTRUCTIONS);
            int i = spot % MOST_INSTRUCTIONS;
            if (body == null || !body.hasInstruction(i)) {
                return;
            }
            body.waiting[i] = false;
            int kind = body.kind[i];
            long may = body.may[i];
            Body called = kind == CALL ? program.body(body.number[i]) : null;
            long inside = called == null ? 0L : called.all;
            if (called != null) {
                growEntry(called, may);
            }
            long after = afterOf(body, i, called);
            growSummary(body, kind == RETURN ? may : 0L, may | after | inside);
            passOn(body, i, after);
            if (kind == CALL || kind == THROW || kind == RISK) {
                passToHandlers(body, i, may | inside);
            }
        }

        private long afterOf(Body body, int i, Body called) {
            switch (body.kind[i]) {
                case CALL:
                    return called == null ? 0L : called.exit;
                case GUARD:
                    return table.goneTo(body.number[i], body.may[i]);
                case HOST:
                    return body.isGuarded(i)
                            ? body.may[i] : table.goneTo(body.number[i], body.may[i]);
                default:
                    return body.may[i];
            }
        }

        private void passOn(Body body, int i, long after) {
            int kind = body.kind[i];
            if (body.goesToNumber(i)) {
                growMay(body, body.number[i], after);
            }
            if (kind != JUMP && kind != RETURN && kind != THROW) {
                growMay(body, i + 1, after);
            }
        }

        private void passToHandlers(Body body, int i, long set) {
            for (int k = 0; k < body.handlers; k++) {
                if (body.from[k] <= i && i < body.to[k]) {
                    growMay(body, body.target[k], set);
                }
            }
        }

        private void growEntry(Body body, long set) {
            body.entry |= set;
            growMay(body, 0, body.entry);
        }

        private void growMay(Body body, int i, long set) {
            if (body.hasInstruction(i) && (body.may[i] | set) != body.may[i]) {
                body.may[i] |= set;
                waitAt(body, i);
            }
        }

        private void growSummary(Body body, long exit, long all) {
            if ((body.exit | exit) != body.exit || (body.all | all) != body.all) {
                body.exit |= exit;
                body.all |= all;
                body.grown = true;
                someGrown = true;
            }
        }

        private void waitAt(Body body, int i) {
            if (!body.waiting[i] && top < stack.length) {
                body.waiting[i] = true;
                stack[top] = body.place * MOST_INSTRUCTIONS + i;
                top++;
            }
        }

        /** Only when nothing else waits: one look at all CALLS then serves many growths at once. */
        private void wakeCallers(Program program) {
            for (int f = 0; f < MOST_FUNCTIONS; f++) {
                Body body = program.body(f);
                if (body != null) {
                    wakeCallersIn(program, body);
                }
            }
            for (int f = 0; f < MOST_FUNCTIONS; f++) {
                Body body = program.body(f);
                if (body != null) {
                    body.grown = false;
                }
            }
            someGrown = false;
        }

        private void wakeCallersIn(Program program, Body body) {
            for (int i = 0; i < body.length; i++) {
                // A CALL whose MAY is empty gets nothing of what it calls.
                if (body.kind[i] == CALL && body.may[i] != 0L) {
                    Body called = program.body(body.number[i]);
                    if (called != null && called.grown) {
                        waitAt(body, i);
                    }
                }
            }
        }
    }

    /** Copies FUNCTIONS with the GUARDS that they lack; Flow must have settled them before. */
    private static final class Forger {
        private final Table table;
        /** Where each INSTRUCTION, with its new GUARD, has gone; one more for the end, for TO. */
        private final int[] places = new int[MOST_INSTRUCTIONS + 1];

        Forger(Table table) {
            this.table = table;
        }

        /** NONE if a FUNCTION would get too long by them. */
        int countLacking(Program program) {
            int sum = 0;
            for (int f = 0; f < MOST_FUNCTIONS; f++) {
                Body body = program.body(f);
                if (body != null) {
                    int lacking = lackingIn(body);
                    if (body.length + lacking > MOST_INSTRUCTIONS) {
                        return NONE;
                    }
                    sum += lacking;
                }
            }
            return sum;
        }

        private int lackingIn(Body body) {
            int lacking = 0;
            for (int i = 0; i < body.length; i++) {
                lacking += table.lacksGuard(body, i) ? 1 : 0;
            }
            return lacking;
        }

        void copyWithGuards(Program source, Program copy) {
            copy.clear();
            for (int f = 0; f < MOST_FUNCTIONS; f++) {
                Body body = source.body(f);
                Body made = body == null ? null : copy.append(body.length + lackingIn(body));
                if (made != null) {
                    copyInstructions(body, made);
                    moveTargets(made);
                    copyHandlers(body, made);
                }
            }
        }

        private void copyInstructions(Body body, Body made) {
            int next = 0;
            for (int i = 0; i < body.length; i++) {
                places[i] = next;
                if (table.lacksGuard(body, i)) {
                    made.put(next, GUARD, body.number[i]);
                    next++;
                }
                made.put(next, body.kind[i], body.number[i]);
                next++;
            }
            places[body.length] = next;
        }

        private void moveTargets(Body made) {
            for (int i = 0; i < made.length; i++) {
                if (made.goesToNumber(i)) {
                    made.number[i] = places[made.number[i]];
                }
            }
        }

        private void copyHandlers(Body body, Body made) {
            for (int k = 0; k < body.handlers; k++) {
                made.addHandler(places[body.from[k]], places[body.to[k]], places[body.target[k]]);
            }
        }
    }
}

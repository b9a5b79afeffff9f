import java.util.function.Consumer;

/**
 * All that can be asked of an object to which some calls have been made, as one text. When it has
 * no calls left, a new one to which the same calls have been made answers the rest.
 */
final class Telling {
    private final Consumer<Used> calls;
    private final StringBuilder text = new StringBuilder();
    private Used used = null;

    private Telling(Consumer<Used> calls) {
        this.calls = calls;
    }

    static String of(Consumer<Used> calls) {
        Telling telling = new Telling(calls);
        telling.tellTable();
        telling.tellProgram(false);
        telling.tellProgram(true);
        return telling.text.toString();
    }

    private Used next() {
        if (used == null || used.left() < 1) {
            used = new Used();
            calls.accept(used);
        }
        return used;
    }

    private void add(String name, long answer) {
        text.append(name).append(' ').append(answer).append('\n');
    }

    private void tellTable() {
        for (int which = 0; which <= 6; which++) {
            add("look " + which, next().look(which));
        }
        int states = next().look(0);
        for (int call = 0; call <= 15; call++) {
            for (int from = 0; from < states; from++) {
                for (int to = -1; to < states; to++) {
                    if (next().goes(call, from, to)) {
                        add("goes " + call + " " + from, to);
                    }
                }
            }
        }
        tellAlways();
    }

    /** Which CALLS need a GUARD always can only be seen by telling them so, on one of its own. */
    private void tellAlways() {
        Used asked = new Used();
        calls.accept(asked);
        if (asked.left() >= 16) {
            for (int call = 0; call <= 15; call++) {
                add("always " + call, asked.always(call, true) ? 0 : 1);
            }
        }
    }

    private void tellProgram(boolean forged) {
        add("certify " + forged, next().certify(forged));
        for (int f = 0; f <= 8; f++) {
            String name = forged + " " + f + " ";
            for (int what = 0; what <= 4; what++) {
                add("size " + name + what, next().size(forged, f, what));
            }
            for (int what = 0; what <= 2; what++) {
                add("set " + name + what, next().set(forged, f, what));
            }
            tellHandlers(forged, f);
            tellInstructions(forged, f);
        }
    }

    private void tellHandlers(boolean forged, int f) {
        int handlers = next().size(forged, f, 1);
        for (int k = 0; k < handlers; k++) {
            for (int what = 0; what <= 2; what++) {
                add("range " + forged + " " + f + " " + k + " " + what,
                        next().range(forged, f, k, what));
            }
        }
    }

    private void tellInstructions(boolean forged, int f) {
        int instructions = next().size(forged, f, 0);
        for (int i = 0; i < instructions; i++) {
            String name = forged + " " + f + " " + i + " ";
            for (int what = 0; what <= 4; what++) {
                add("of " + name + what, next().of(forged, f, i, what));
            }
            add("may " + name, next().may(forged, f, i));
        }
    }
}

import java.util.ArrayList;
import java.util.HashSet;
import java.util.List;
import java.util.Set;

/**
 * All promises: long runs of calls by chance (from a fixed seed) against a second program that
 * follows the words of 'Terms' one by one, with plain sets and without any cleverness.
 */
public final class ModelTest {
    private static final Due due = new Due();
    private static long seed = 20261115L;

    public static void main(String[] args) {
        for (int run = 0; run < 1500 && due.allRight(); run++) {
            oneRun(run);
        }
        due.end();
    }

    private static int chance(int bound) {
        seed = seed * 6364136223846793005L + 1442695040888963407L;
        return (int) ((seed >>> 33) % bound);
    }

    private static void oneRun(int run) {
        GuardFlow g = new GuardFlow();
        Model m = new Model();
        int most = run % 10 == 0 ? 60 : 1 + chance(6);
        int longest = run % 25 == 0 ? 200 : 3 + chance(14);
        // Some changes take two calls: this stays below the 512 that an object is used for.
        int calls = run % 4 == 0 ? 400 : 120;
        if (chance(8) != 0) {
            due.is("begin(" + most + ")", g.begin(most), m.begin(most));
            calls--;
        }
        for (int n = 0; n < calls; n++) {
            if (chance(3) == 0) {
                change(g, m, longest);
            } else {
                ask(g, m);
            }
        }
    }

    /** Mostly below the bound, now and then just beside what can be, or far from it. */
    private static int near(int bound) {
        switch (chance(80)) {
            case 0:
            case 1:
                return -1;
            case 2:
            case 3:
                return bound;
            case 4:
                return Integer.MIN_VALUE;
            case 5:
                return Integer.MAX_VALUE;
            default:
                return chance(Math.max(1, bound));
        }
    }

    private static void change(GuardFlow g, Model m, int longest) {
        int pick = chance(100);
        if (pick < 1 && chance(6) == 0) {
            int states = chance(64) - 1;
            due.is("begin(" + states + ")", g.begin(states), m.begin(states));
        } else if (pick < 25) {
            int call = near(chance(6) == 0 ? 16 : 4);
            int from = near(m.states);
            int to = chance(8) == 0 ? chance(4) - 2 : near(m.states);
            due.is("way(" + call + ", " + from + ", " + to + ")",
                    g.way(call, from, to), m.way(call, from, to));
        } else if (pick < 28) {
            int call = near(16);
            boolean on = chance(2) == 0;
            due.is("always(" + call + ", " + on + ")", g.always(call, on), m.always(call, on));
        } else if (pick < 38) {
            // With the longest ones, FUNCTIONS that have hardly room for a GUARD more.
            int n = chance(30) == 0 ? chance(210) - 4
                    : longest == 200 ? 195 + chance(6) : near(longest);
            due.is("function(" + n + ")", g.function(n), m.function(n));
        } else if (pick < 80) {
            changeCode(g, m);
        } else if (pick < 88) {
            int f = near(m.now.size());
            int n = m.lengthOf(f);
            int from = near(n);
            int to = near(n + 1);
            int target = near(n);
            due.is("handler(" + f + ", " + from + ", " + to + ", " + target + ")",
                    g.handler(f, from, to, target), m.handler(f, from, to, target));
        } else if (pick < 97) {
            due.is("forge()", g.forge(), m.forge());
        } else {
            due.is("take()", g.take(), m.take());
        }
    }

    private static void changeCode(GuardFlow g, Model m) {
        int f = near(m.now.size());
        int i = near(m.lengthOf(f));
        int kind = chance(3) == 0 ? 4 + chance(2) : near(9);
        int bound = kind == 1 || kind == 2 ? m.lengthOf(f)
                : kind == 3 ? (chance(5) == 0 ? 8 : Math.max(1, m.now.size()))
                : kind == 4 || kind == 5 ? (chance(6) == 0 ? 16 : 4) : 1;
        int number = near(bound);
        due.is("code(" + f + ", " + i + ", " + kind + ", " + number + ")",
                g.code(f, i, kind, number), m.code(f, i, kind, number));
        if (kind == 4 && chance(3) == 0) {
            due.is("code(" + f + ", " + (i - 1) + ", 5, " + number + ")",
                    g.code(f, i - 1, 5, number), m.code(f, i - 1, 5, number));
        }
    }

    private static void ask(GuardFlow g, Model m) {
        boolean forged = m.beside != null ? chance(2) == 0 : chance(10) == 0;
        List<Model.Fun> all = forged && m.beside != null ? m.beside : m.now;
        int f = near(all.size());
        int n = f >= 0 && f < all.size() ? all.get(f).kind.size() : 3;
        int i = near(n);
        int what = near(5);
        String told = "(" + forged + ", " + f + ", " + i + ", " + what + ")";
        switch (chance(8)) {
            case 0 -> due.is("certify" + told, g.certify(forged), m.certify(forged));
            case 1 -> due.is("of" + told, g.of(forged, f, i, what), m.of(forged, f, i, what));
            case 2 -> due.is("may" + told, g.may(forged, f, i), m.may(forged, f, i));
            case 3 -> due.is("set" + told, g.set(forged, f, what), m.set(forged, f, what));
            case 4 -> due.is("size" + told, g.size(forged, f, what), m.size(forged, f, what));
            case 5 -> {
                int k = near(3);
                due.is("range" + told + k, g.range(forged, f, k, what), m.range(forged, f, k, what));
            }
            case 6 -> {
                int call = near(4);
                int from = near(m.states);
                int to = near(m.states);
                due.is("goes(" + call + ", " + from + ", " + to + ")",
                        g.goes(call, from, to), m.goes(call, from, to));
            }
            default -> {
                int which = near(7);
                due.is("look(" + which + ")", g.look(which), m.look(which));
            }
        }
    }

    private static final class Model {
        static final class Fun {
            final List<Integer> kind = new ArrayList<>();
            final List<Integer> number = new ArrayList<>();
            final List<int[]> handlers = new ArrayList<>();
            final List<Set<Integer>> may = new ArrayList<>();
            Set<Integer> entry;
            Set<Integer> exit;
            Set<Integer> all;
        }

        int states = 1;
        Set<List<Integer>> ways = new HashSet<>();
        Set<Integer> always = new HashSet<>();
        List<Fun> now = new ArrayList<>();
        List<Fun> beside = null;

        int lengthOf(int f) {
            return f >= 0 && f < now.size() ? now.get(f).kind.size() : 3;
        }

        boolean begin(int s) {
            if (s < 1 || s > 60) {
                return false;
            }
            states = s;
            ways.clear();
            always.clear();
            now = new ArrayList<>();
            beside = null;
            return true;
        }

        boolean isWay(int call, int from, int to) {
            return call >= 0 && call <= 15 && from >= 0 && from < states && to >= -1 && to < states;
        }

        boolean way(int call, int from, int to) {
            if (!isWay(call, from, to) || !ways.add(List.of(call, from, to))) {
                return false;
            }
            beside = null;
            return true;
        }

        boolean goes(int call, int from, int to) {
            return isWay(call, from, to) && ways.contains(List.of(call, from, to));
        }

        boolean always(int call, boolean on) {
            if (call < 0 || call > 15 || !(on ? always.add(call) : always.remove(call))) {
                return false;
            }
            beside = null;
            return true;
        }

        int function(int n) {
            if (n < 1 || n > 200 || now.size() == 8) {
                return -1;
            }
            Fun fun = new Fun();
            for (int i = 0; i < n; i++) {
                fun.kind.add(0);
                fun.number.add(0);
            }
            now.add(fun);
            beside = null;
            return now.size() - 1;
        }

        boolean code(int f, int i, int kind, int number) {
            Fun fun = fun(false, f);
            if (fun == null || i < 0 || i >= fun.kind.size() || kind < 0 || kind > 8) {
                return false;
            }
            int[] bounds = {1, fun.kind.size(), fun.kind.size(), 8, 16, 16, 1, 1, 1};
            if (number < 0 || number >= bounds[kind]) {
                return false;
            }
            fun.kind.set(i, kind);
            fun.number.set(i, number);
            beside = null;
            return true;
        }

        boolean handler(int f, int from, int to, int target) {
            Fun fun = fun(false, f);
            if (fun == null || fun.handlers.size() == 6 || from < 0 || from >= to
                    || to > fun.kind.size() || target < 0 || target >= fun.kind.size()) {
                return false;
            }
            fun.handlers.add(new int[] {from, to, target});
            beside = null;
            return true;
        }

        private Fun fun(boolean forged, int f) {
            List<Fun> all = forged ? beside : now;
            return all == null || f < 0 || f >= all.size() ? null : all.get(f);
        }

        boolean guarded(Fun fun, int i) {
            if (i < 1 || i >= fun.kind.size() || fun.kind.get(i) != 4 || fun.kind.get(i - 1) != 5
                    || fun.number.get(i).intValue() != fun.number.get(i - 1).intValue()) {
                return false;
            }
            for (int j = 0; j < fun.kind.size(); j++) {
                if ((fun.kind.get(j) == 1 || fun.kind.get(j) == 2) && fun.number.get(j) == i) {
                    return false;
                }
            }
            for (int[] h : fun.handlers) {
                if (h[2] == i) {
                    return false;
                }
            }
            return true;
        }

        Set<Integer> image(int c, Set<Integer> from) {
            Set<Integer> gone = new HashSet<>();
            for (List<Integer> w : ways) {
                if (w.get(0) == c && from.contains(w.get(1)) && w.get(2) != -1) {
                    gone.add(w.get(2));
                }
            }
            return gone;
        }

        boolean needs(Fun fun, int i) {
            if (fun.kind.get(i) != 4) {
                return false;
            }
            int c = fun.number.get(i);
            if (always.contains(c)) {
                return true;
            }
            for (int s : fun.may.get(i)) {
                boolean any = false;
                for (int to = -1; to < states; to++) {
                    boolean there = ways.contains(List.of(c, s, to));
                    any |= there;
                    if (there && to != s) {
                        return true;
                    }
                }
                if (!any) {
                    return true;
                }
            }
            return false;
        }

        void solve(List<Fun> all) {
            for (Fun fun : all) {
                fun.may.clear();
                for (int i = 0; i < fun.kind.size(); i++) {
                    fun.may.add(new HashSet<>());
                }
                fun.entry = new HashSet<>();
                fun.exit = new HashSet<>();
                fun.all = new HashSet<>();
            }
            if (!all.isEmpty()) {
                all.get(0).entry.add(0);
            }
            boolean more = true;
            while (more) {
                more = false;
                for (Fun fun : all) {
                    more |= fun.may.get(0).addAll(fun.entry);
                    for (int i = 0; i < fun.kind.size(); i++) {
                        more |= rules(all, fun, i);
                    }
                }
            }
        }

        private boolean rules(List<Fun> all, Fun fun, int i) {
            int kind = fun.kind.get(i);
            int number = fun.number.get(i);
            Set<Integer> may = Set.copyOf(fun.may.get(i));
            Fun called = kind == 3 && number < all.size() ? all.get(number) : null;
            Set<Integer> after = may;
            if (kind == 5 || kind == 4 && !guarded(fun, i)) {
                after = image(number, may);
            } else if (kind == 3) {
                after = !may.isEmpty() && called != null ? Set.copyOf(called.exit) : Set.of();
            }
            boolean more = false;
            if (kind == 1 || kind == 2) {
                more |= fun.may.get(number).addAll(after);
            }
            if (kind != 1 && kind != 6 && kind != 7 && i + 1 < fun.kind.size()) {
                more |= fun.may.get(i + 1).addAll(after);
            }
            if (kind == 6) {
                more |= fun.exit.addAll(may);
            }
            more |= fun.all.addAll(may);
            more |= fun.all.addAll(after);
            Set<Integer> thrown = new HashSet<>(may);
            if (called != null) {
                more |= called.entry.addAll(may);
                if (!may.isEmpty()) {
                    thrown.addAll(called.all);
                    more |= fun.all.addAll(Set.copyOf(called.all));
                }
            }
            if (kind == 3 || kind == 7 || kind == 8) {
                for (int[] h : fun.handlers) {
                    if (h[0] <= i && i < h[1]) {
                        more |= fun.may.get(h[2]).addAll(thrown);
                    }
                }
            }
            return more;
        }

        int forge() {
            solve(now);
            List<Fun> made = new ArrayList<>();
            int put = 0;
            for (Fun fun : now) {
                Fun next = new Fun();
                List<Integer> old = new ArrayList<>();
                for (int i = 0; i < fun.kind.size(); i++) {
                    if (needs(fun, i) && !guarded(fun, i)) {
                        put++;
                        next.kind.add(5);
                        next.number.add(fun.number.get(i));
                        old.add(i);
                    }
                    next.kind.add(fun.kind.get(i));
                    next.number.add(fun.number.get(i));
                    old.add(i);
                }
                old.add(fun.kind.size());
                if (next.kind.size() > 200) {
                    return -2;
                }
                for (int j = 0; j < next.kind.size(); j++) {
                    if (next.kind.get(j) == 1 || next.kind.get(j) == 2) {
                        next.number.set(j, old.indexOf(next.number.get(j)));
                    }
                }
                for (int[] h : fun.handlers) {
                    next.handlers.add(new int[] {
                        old.indexOf(h[0]), old.indexOf(h[1]), old.indexOf(h[2])});
                }
                made.add(next);
            }
            beside = made;
            return put;
        }

        boolean take() {
            if (beside == null) {
                return false;
            }
            now = beside;
            beside = null;
            return true;
        }

        int certify(boolean forged) {
            List<Fun> all = forged ? beside : now;
            if (all == null) {
                return -1;
            }
            solve(all);
            for (int f = 0; f < all.size(); f++) {
                Fun fun = all.get(f);
                for (int i = 0; i < fun.kind.size(); i++) {
                    boolean bad = needs(fun, i) && !guarded(fun, i);
                    if (fun.kind.get(i) == 5) {
                        bad = i + 1 == fun.kind.size() || fun.kind.get(i + 1) != 4
                                || fun.number.get(i + 1).intValue() != fun.number.get(i).intValue()
                                || !guarded(fun, i + 1);
                    }
                    if (bad) {
                        return 1 + 256 * f + i;
                    }
                }
            }
            return 0;
        }

        private Fun solved(boolean forged, int f) {
            Fun fun = fun(forged, f);
            if (fun != null) {
                solve(forged ? beside : now);
            }
            return fun;
        }

        int of(boolean forged, int f, int i, int what) {
            Fun fun = solved(forged, f);
            if (fun == null || i < 0 || i >= fun.kind.size()) {
                return -1;
            }
            return switch (what) {
                case 0 -> fun.kind.get(i);
                case 1 -> fun.number.get(i);
                case 2 -> guarded(fun, i) ? 1 : 0;
                case 3 -> needs(fun, i) ? 1 : 0;
                case 4 -> fun.may.get(i).size();
                default -> -1;
            };
        }

        private static long bits(Set<Integer> set) {
            long sum = 0;
            for (int s : set) {
                sum += 1L << s;
            }
            return sum;
        }

        long may(boolean forged, int f, int i) {
            Fun fun = solved(forged, f);
            return fun == null || i < 0 || i >= fun.kind.size() ? 0 : bits(fun.may.get(i));
        }

        long set(boolean forged, int f, int what) {
            Fun fun = solved(forged, f);
            if (fun == null) {
                return 0;
            }
            return switch (what) {
                case 0 -> bits(fun.entry);
                case 1 -> bits(fun.exit);
                case 2 -> bits(fun.all);
                default -> 0;
            };
        }

        int size(boolean forged, int f, int what) {
            Fun fun = solved(forged, f);
            if (fun == null) {
                return -1;
            }
            return (int) switch (what) {
                case 0 -> fun.kind.size();
                case 1 -> fun.handlers.size();
                case 2 -> fun.kind.stream().filter(k -> k == 4).count();
                case 3 -> fun.kind.stream().filter(k -> k == 5).count();
                case 4 -> fun.may.stream().filter(s -> !s.isEmpty()).count();
                default -> -1;
            };
        }

        int range(boolean forged, int f, int k, int what) {
            Fun fun = fun(forged, f);
            if (fun == null || k < 0 || k >= fun.handlers.size() || what < 0 || what > 2) {
                return -1;
            }
            return fun.handlers.get(k)[what];
        }

        int look(int which) {
            return switch (which) {
                case 0 -> states;
                case 1 -> ways.size();
                case 2 -> now.size();
                case 3 -> beside != null ? 1 : 0;
                case 4 -> now.stream().mapToInt(f -> f.kind.size()).sum();
                case 5 -> beside == null ? -1 : beside.stream().mapToInt(f -> f.kind.size()).sum();
                case 6 -> always.size();
                default -> -1;
            };
        }
    }
}

import java.util.ArrayList;
import java.util.List;
import java.util.Map;
import java.util.TreeMap;
import java.util.TreeSet;

/** All promises: many runs of mixed calls, right and wrong ones, against a plain model. */
public final class ModelTest {
    private static final int RUNS = 400;
    private static final int CALLS = 512;

    // The same numbers on every machine, so a failure can be run again.
    private static long seed = 20261115L;

    public static void main(String[] args) {
        for (int run = 0; run < RUNS; run++) {
            SendTable x = new SendTable();
            Model model = new Model();
            int style = run % 4;
            for (int call = 0; call < CALLS; call++) {
                oneCall(x, model, style, "run " + run + ", call " + call + ": ");
            }
        }
        Due.end();
    }

    private static int below(int bound) {
        seed = seed * 6364136223846793005L + 1442695040888963407L;
        return (int) ((seed >>> 33) % bound);
    }

    private static int odd() {
        int[] odd = {-1, -2, -3, 8, 9, 10, 11, 32, 1001, Integer.MIN_VALUE, Integer.MAX_VALUE};
        return odd[below(odd.length)];
    }

    private static int someClass() {
        return below(25) == 0 ? odd() : below(10);
    }

    private static int someSelector() {
        return below(25) == 0 ? odd() : below(8);
    }

    private static int someMethod() {
        int[] edges = {0, 1, 1000, 1001, -1, Integer.MIN_VALUE, Integer.MAX_VALUE};
        return below(10) == 0 ? edges[below(edges.length)] : 1 + below(1000);
    }

    /** Styles 0 and 1 make flat forests, where crowd and colours part; 2 and 3 make deep trees. */
    private static int someParent(int style) {
        return style < 2 && below(4) != 0 || below(8) == 0 ? SendTable.NONE : someClass();
    }

    private static void oneCall(SendTable x, Model model, int style, String at) {
        int c = someClass();
        int s = someSelector();
        int p = someParent(style);
        int m = someMethod();
        String cs = "(" + c + ", " + s + ")";
        // Even styles drop as often as they define, so that the tables stay thin.
        int kind = below(style % 2 == 0 ? 20 : 17);
        switch (kind) {
            case 0 -> Due.is(at + "addClass(" + p + ")", x.addClass(p), model.addClass(p));
            case 1, 2, 3 -> Due.is(at + "define" + cs + m, x.define(c, s, m), model.define(c, s, m));
            case 4 -> Due.is(at + "move(" + c + ", " + p + ")", x.move(c, p), model.move(c, p));
            case 5 -> Due.is(at + "classes()", x.classes(), model.parents.size());
            case 6 -> Due.is(at + "parent(" + c + ")", x.parent(c), model.parent(c));
            case 7 -> Due.is(at + "send" + cs, x.send(c, s), model.send(c, s));
            case 8 -> Due.is(at + "sendSuper" + cs, x.sendSuper(c, s), model.send(model.parent(c), s));
            case 9 -> Due.is(at + "owner" + cs, x.owner(c, s), model.owner(c, s));
            case 10 -> Due.is(at + "understands(" + c + ")", x.understands(c), model.understands(c));
            case 11 -> Due.is(at + "heirs" + cs, x.heirs(c, s), model.heirs(c, s));
            case 12 -> Due.is(at + "apart(" + s + ")", x.apart(s), model.apart(s));
            case 13, 14 -> Due.is(at + "crowd()", x.crowd(), model.crowd(0, new ArrayList<>()));
            case 15 -> Due.is(at + "colours()", x.colours(), model.colours());
            default -> Due.is(at + "drop" + cs, x.drop(c, s), model.drop(c, s));
        }
    }

    /** Says the document's words over again in the library's terms, with recursion. */
    private static final class Model {
        final List<Integer> parents = new ArrayList<>();
        final List<Map<Integer, Integer>> own = new ArrayList<>();

        boolean has(int c) {
            return 0 <= c && c < parents.size();
        }

        int addClass(int p) {
            if (p != -1 && !has(p)) {
                return -1;
            }
            if (parents.size() == 10) {
                return -2;
            }
            parents.add(p);
            own.add(new TreeMap<>());
            return parents.size() - 1;
        }

        boolean define(int c, int s, int m) {
            if (!has(c) || s < 0 || s > 7 || m < 1 || m > 1000) {
                return false;
            }
            own.get(c).put(s, m);
            return true;
        }

        boolean drop(int c, int s) {
            return has(c) && own.get(c).remove(s) != null;
        }

        boolean under(int d, int c) {
            return has(d) && (parents.get(d) == c || under(parents.get(d), c));
        }

        boolean move(int c, int p) {
            if (!has(c) || p != -1 && !has(p) || p == c || under(p, c)) {
                return false;
            }
            parents.set(c, p);
            return true;
        }

        int parent(int c) {
            return has(c) ? parents.get(c) : -1;
        }

        int owner(int c, int s) {
            if (!has(c)) {
                return -1;
            }
            return own.get(c).containsKey(s) ? c : owner(parents.get(c), s);
        }

        int send(int c, int s) {
            int found = owner(c, s);
            return found == -1 ? 0 : own.get(found).get(s);
        }

        int understands(int c) {
            int set = 0;
            for (int s = 0; s < 8; s++) {
                set += send(c, s) == 0 ? 0 : 1 << s;
            }
            return set;
        }

        int heirs(int c, int s) {
            int set = 0;
            for (int d = 0; has(c) && d < parents.size(); d++) {
                set += owner(d, s) == c ? 1 << d : 0;
            }
            return set;
        }

        boolean together(int s, int t) {
            for (int c = 0; c < parents.size(); c++) {
                if (send(c, s) != 0 && send(c, t) != 0) {
                    return true;
                }
            }
            return false;
        }

        int apart(int s) {
            int set = 0;
            for (int t = 0; 0 <= s && s < 8 && t < 8; t++) {
                set += t != s && !together(s, t) ? 1 << t : 0;
            }
            return set;
        }

        /** The most that the chosen ones can grow to with selectors from s on. */
        int crowd(int s, List<Integer> chosen) {
            if (s == 8) {
                return chosen.size();
            }
            int best = crowd(s + 1, chosen);
            boolean fits = together(s, s);
            for (int t : chosen) {
                fits = fits && together(s, t);
            }
            if (fits) {
                List<Integer> grown = new ArrayList<>(chosen);
                grown.add(s);
                best = Math.max(best, crowd(s + 1, grown));
            }
            return best;
        }

        int colours() {
            TreeSet<Integer> todo = new TreeSet<>();
            for (int s = 0; s < 8; s++) {
                if (together(s, s)) {
                    todo.add(s);
                }
            }
            int count = 0;
            while (!canColour(new ArrayList<>(todo), 0, new int[8], count)) {
                count++;
            }
            return count;
        }

        boolean canColour(List<Integer> todo, int at, int[] colour, int count) {
            if (at == todo.size()) {
                return true;
            }
            for (int k = 1; k <= count; k++) {
                boolean free = true;
                for (int i = 0; i < at; i++) {
                    free = free && !(colour[i] == k && together(todo.get(i), todo.get(at)));
                }
                colour[at] = k;
                if (free && canColour(todo, at + 1, colour, count)) {
                    return true;
                }
            }
            return false;
        }
    }
}

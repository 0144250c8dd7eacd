import java.util.ArrayList;
import java.util.List;

/**
 * Long runs of calls on the class and on a model that writes every run of a pattern down as the
 * document's table of runs says it, with no run left out. The calls are made up by a fixed rule,
 * so that they are the same each time.
 */
public final class ReferenceTest {
    private static final int OBJECTS = 4000;
    private static final int CALLS = 250;
    private static final int MOST_RUNS = 20000;

    private static int wrong = 0;
    private static long compared = 0;
    private static long skipped = 0;
    private static long state = 20261115L;

    public static void main(String[] args) {
        for (int object = 0; object < OBJECTS && wrong < 20; object++) {
            compareOne(object);
        }
        System.out.println(compared + " answers compared, " + skipped + " left out for too many runs, " + wrong + " wrong");
        if (wrong != 0 || compared < 100000) {
            System.exit(1);
        }
    }

    private static int below(int bound) {
        state = state * 6364136223846793005L + 1442695040888963407L;
        return (int) ((state >>> 33) % bound);
    }

    /** Mostly 0 to most, now and then a number outside. */
    private static int argument(int most) {
        if (below(20) > 0) {
            return below(most + 1);
        }
        int[] outside = {-1, most + 1, most + 2, Integer.MIN_VALUE, Integer.MAX_VALUE, 256, -4, 1 << 30};
        return outside[below(outside.length)];
    }

    private static void compareOne(int object) {
        RegexCaptures x = new RegexCaptures();
        Model m = new Model();
        // Some objects build small patterns and ask much, others go to the limits.
        int building = 20 + below(60);
        StringBuilder calls = new StringBuilder();
        for (int call = 0; call < CALLS; call++) {
            int what = below(100) < building ? below(19) : 19 + below(10);
            int a = what >= 20 ? argument(m.n()) : argument(2);
            int b = what == 26 || what == 27 ? argument(m.n()) : argument(2);
            calls.append(what).append("(").append(a).append(",").append(b).append(") ");
            long want;
            try {
                want = onModel(m, what, a, b);
            } catch (TooManyRuns e) {
                skipped++;
                continue;
            }
            long got = onClass(x, what, a, b);
            compared++;
            if (got != want) {
                wrong++;
                System.out.println("object " + object + ": " + calls + "answered " + got + ", due is " + want);
                return;
            }
        }
    }

    private static long onClass(RegexCaptures x, int what, int a, int b) {
        switch (what) {
            case 0: case 1: case 2: return x.letter(a);
            case 3: return x.any();
            case 4: return x.empty();
            case 5: case 6: return x.cat();
            case 7: case 8: return x.alt();
            case 9: return x.star();
            case 10: return x.lazy();
            case 11: case 12: return x.group(a);
            case 13: return defineOrDiscard(x);
            case 14: case 15: case 16: case 17: return x.feed(a);
            case 18: return eraseIfFull(x);
            case 19: return 100 * x.steps() + 10 * x.depth() + x.length();
            case 20: return x.find(a);
            case 21: return x.end(a);
            case 22: case 23: return x.groupIn(a, b);
            case 24: return x.count();
            case 25: return x.longest();
            case 26: case 27: return x.spans(a, b) ? 1 : 0;
            default: return x.groupInWhole(b);
        }
    }

    private static long onModel(Model m, int what, int a, int b) {
        switch (what) {
            case 0: case 1: case 2: return m.leaf("letter", a);
            case 3: return m.leaf("any", 0);
            case 4: return m.leaf("empty", 0);
            case 5: case 6: return m.join("cat");
            case 7: case 8: return m.join("alt");
            case 9: return m.wrap("star", 0);
            case 10: return m.wrap("lazy", 0);
            case 11: case 12: return m.wrap("group", a);
            case 13: return m.defineOrDiscard();
            case 14: case 15: case 16: case 17: return m.feed(a);
            case 18: return m.eraseIfFull();
            case 19: return 100 * m.steps + 10 * m.stack.size() + m.n();
            case 20: return m.find(a);
            case 21: return m.end(a);
            case 22: case 23: return m.groupIn(a, b);
            case 24: return m.count();
            case 25: return m.longest();
            case 26: case 27: return m.spans(a, b) ? 1 : 0;
            default: return m.groupInWhole(b);
        }
    }

    /** Discards a stack of five, else defines: so that both are met in the course of the calls. */
    private static long defineOrDiscard(RegexCaptures x) {
        if (x.depth() == 5) {
            x.discard();
            return 0;
        }
        return x.define();
    }

    private static long eraseIfFull(RegexCaptures x) {
        if (x.length() >= 7) {
            x.erase();
        }
        return x.length();
    }

    private static final class TooManyRuns extends RuntimeException {
        private static final long serialVersionUID = 1L;
    }

    private record Pattern(String kind, int value, Pattern x, Pattern y) {
        boolean hasGroup(int g) {
            return kind.equals("group") && value == g
                || x != null && x.hasGroup(g)
                || y != null && y.hasGroup(g);
        }
    }

    private record Setting(int g, int i, int j) {
    }

    private record Run(int end, List<Setting> settings) {
        Run then(Run next) {
            List<Setting> all = new ArrayList<>(settings);
            all.addAll(next.settings);
            return new Run(next.end, all);
        }

        int group(int g) {
            int last = -4;
            for (Setting s : settings) {
                last = s.g == g ? 16 * s.i + s.j : last;
            }
            return last;
        }
    }

    private static final class Model {
        final List<Pattern> stack = new ArrayList<>();
        final List<Integer> text = new ArrayList<>();
        int steps = 0;
        Pattern used = new Pattern("empty", 0, null, null);
        int made = 0;

        int n() {
            return text.size();
        }

        int leaf(String kind, int value) {
            if (value < 0 || value > 2) {
                return -1;
            }
            if (steps == 16 || stack.size() == 6) {
                return -2;
            }
            stack.add(new Pattern(kind, value, null, null));
            steps++;
            return stack.size();
        }

        int join(String kind) {
            if (steps == 16) {
                return -2;
            }
            if (stack.size() < 2) {
                return -3;
            }
            Pattern y = stack.remove(stack.size() - 1);
            Pattern x = stack.remove(stack.size() - 1);
            stack.add(new Pattern(kind, 0, x, y));
            steps++;
            return stack.size();
        }

        int wrap(String kind, int g) {
            if (g < 0 || g > 2) {
                return -1;
            }
            if (steps == 16) {
                return -2;
            }
            if (stack.isEmpty()) {
                return -3;
            }
            Pattern x = stack.get(stack.size() - 1);
            if (kind.equals("group") && x.hasGroup(g)) {
                return -4;
            }
            stack.set(stack.size() - 1, new Pattern(kind, g, x, null));
            steps++;
            return stack.size();
        }

        int defineOrDiscard() {
            int held = stack.size();
            if (held == 0) {
                return -3;
            }
            if (held != 5) {
                used = stack.get(held - 1);
            }
            stack.clear();
            steps = 0;
            return held == 5 ? 0 : held;
        }

        int feed(int c) {
            if (c < 0 || c > 2) {
                return -1;
            }
            if (n() == 10) {
                return -2;
            }
            text.add(c);
            return n();
        }

        int eraseIfFull() {
            if (n() >= 7) {
                text.clear();
            }
            return n();
        }

        List<Run> runsOfUsed(int i) {
            made = 0;
            return runs(used, i);
        }

        List<Run> runs(Pattern p, int i) {
            List<Run> all = new ArrayList<>();
            switch (p.kind) {
                case "letter":
                    if (i < n() && text.get(i) == p.value) {
                        all.add(new Run(i + 1, List.of()));
                    }
                    break;
                case "any":
                    if (i < n()) {
                        all.add(new Run(i + 1, List.of()));
                    }
                    break;
                case "empty":
                    all.add(new Run(i, List.of()));
                    break;
                case "cat":
                    for (Run x : runs(p.x, i)) {
                        addAfter(all, x, p.y);
                    }
                    break;
                case "alt":
                    all.addAll(runs(p.x, i));
                    all.addAll(runs(p.y, i));
                    break;
                case "star":
                    addRounds(all, p, i);
                    all.add(new Run(i, List.of()));
                    break;
                case "lazy":
                    all.add(new Run(i, List.of()));
                    addRounds(all, p, i);
                    break;
                default:
                    for (Run x : runs(p.x, i)) {
                        all.add(x.then(new Run(x.end, List.of(new Setting(p.value, i, x.end)))));
                    }
                    break;
            }
            made += all.size();
            if (made > MOST_RUNS) {
                throw new TooManyRuns();
            }
            return all;
        }

        void addRounds(List<Run> all, Pattern p, int i) {
            for (Run x : runs(p.x, i)) {
                if (x.end > i) {
                    addAfter(all, x, p);
                }
            }
        }

        void addAfter(List<Run> all, Run x, Pattern next) {
            for (Run y : runs(next, x.end)) {
                all.add(x.then(y));
            }
        }

        int find(int f) {
            if (f < 0 || f > n()) {
                return -4;
            }
            for (int i = f; i <= n(); i++) {
                if (!runsOfUsed(i).isEmpty()) {
                    return i;
                }
            }
            return -4;
        }

        int end(int f) {
            int begin = find(f);
            return begin == -4 ? -4 : runsOfUsed(begin).get(0).end;
        }

        int groupIn(int f, int g) {
            int begin = find(f);
            return begin == -4 ? -4 : runsOfUsed(begin).get(0).group(g);
        }

        boolean spans(int i, int j) {
            if (i < 0 || i > n() || j < 0 || j > n()) {
                return false;
            }
            return runsOfUsed(i).stream().anyMatch(r -> r.end == j);
        }

        int groupInWhole(int g) {
            for (Run r : runsOfUsed(0)) {
                if (r.end == n()) {
                    return r.group(g);
                }
            }
            return -4;
        }

        List<int[]> finds() {
            List<int[]> all = new ArrayList<>();
            int from = 0;
            while (find(from) != -4) {
                int begin = find(from);
                int end = end(from);
                all.add(new int[] {begin, end});
                from = begin == end ? end + 1 : end;
            }
            return all;
        }

        int count() {
            return finds().size();
        }

        int longest() {
            return finds().stream().mapToInt(f -> f[1] - f[0]).max().orElse(-4);
        }
    }
}

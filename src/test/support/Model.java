import java.util.ArrayList;
import java.util.List;

/**
 * The document once more, as plainly as it can be said: every run of a pattern is written down as
 * the table of runs tells it, with no run left out.
 */
final class Model {
    private static final int MOST_RUNS = 20000;

    static final class TooManyRuns extends RuntimeException {
        private static final long serialVersionUID = 1L;
    }

    private record Pattern(String kind, int value, Pattern x, Pattern y) {
        boolean hasGroup(int g) {
            return kind.equals("group") && value == g
                || x != null && x.hasGroup(g)
                || y != null && y.hasGroup(g);
        }
    }

    private record Setting(int g, int i, int j) {
    }

    private record Run(int end, List<Setting> settings) {
        Run then(Run next) {
            List<Setting> all = new ArrayList<>(settings);
            all.addAll(next.settings);
            return new Run(next.end, all);
        }

        int group(int g) {
            int last = -4;
            for (Setting s : settings) {
                last = s.g == g ? 16 * s.i + s.j : last;
            }
            return last;
        }
    }

    final List<Pattern> stack = new ArrayList<>();
    final List<Integer> text = new ArrayList<>();
    int steps = 0;
    Pattern used = new Pattern("empty", 0, null, null);
    int made = 0;

    /** A model with the pattern in use that the line of steps makes, and a text. */
    static Model with(String postfix, String letters) {
        Model m = new Model();
        for (char step : postfix.toCharArray()) {
            m.step(step);
        }
        m.used = m.stack.remove(m.stack.size() - 1);
        for (char c : letters.toCharArray()) {
            m.feed(c - '0');
        }
        return m;
    }

    private int step(char step) {
        switch (step) {
            case '.': return leaf("any", 0);
            case 'e': return leaf("empty", 0);
            case '&': return join("cat");
            case '|': return join("alt");
            case '*': return wrap("star", 0);
            case '?': return wrap("lazy", 0);
            case 'a': return wrap("group", 0);
            case 'b': return wrap("group", 1);
            case 'c': return wrap("group", 2);
            default: return leaf("letter", step - '0');
        }
    }

    int n() {
        return text.size();
    }

    int leaf(String kind, int value) {
        if (value < 0 || value > 2) {
            return -1;
        }
        if (steps == 16 || stack.size() == 6) {
            return -2;
        }
        stack.add(new Pattern(kind, value, null, null));
        steps++;
        return stack.size();
    }

    int join(String kind) {
        if (steps == 16) {
            return -2;
        }
        if (stack.size() < 2) {
            return -3;
        }
        Pattern y = stack.remove(stack.size() - 1);
        Pattern x = stack.remove(stack.size() - 1);
        stack.add(new Pattern(kind, 0, x, y));
        steps++;
        return stack.size();
    }

    int wrap(String kind, int g) {
        if (g < 0 || g > 2) {
            return -1;
        }
        if (steps == 16) {
            return -2;
        }
        if (stack.isEmpty()) {
            return -3;
        }
        Pattern x = stack.get(stack.size() - 1);
        if (kind.equals("group") && x.hasGroup(g)) {
            return -4;
        }
        stack.set(stack.size() - 1, new Pattern(kind, g, x, null));
        steps++;
        return stack.size();
    }

    int defineOrDiscard() {
        int held = stack.size();
        if (held == 0) {
            return -3;
        }
        if (held != 5) {
            used = stack.get(held - 1);
        }
        stack.clear();
        steps = 0;
        return held == 5 ? 0 : held;
    }

    int feed(int c) {
        if (c < 0 || c > 2) {
            return -1;
        }
        if (n() == 10) {
            return -2;
        }
        text.add(c);
        return n();
    }

    int eraseIfFull() {
        if (n() >= 7) {
            text.clear();
        }
        return n();
    }

    List<Run> runsOfUsed(int i) {
        made = 0;
        return runs(used, i);
    }

    List<Run> runs(Pattern p, int i) {
        List<Run> all = new ArrayList<>();
        switch (p.kind) {
            case "letter":
                if (i < n() && text.get(i) == p.value) {
                    all.add(new Run(i + 1, List.of()));
                }
                break;
            case "any":
                if (i < n()) {
                    all.add(new Run(i + 1, List.of()));
                }
                break;
            case "empty":
                all.add(new Run(i, List.of()));
                break;
            case "cat":
                for (Run x : runs(p.x, i)) {
                    addAfter(all, x, p.y);
                }
                break;
            case "alt":
                all.addAll(runs(p.x, i));
                all.addAll(runs(p.y, i));
                break;
            case "star":
                addRounds(all, p, i);
                all.add(new Run(i, List.of()));
                break;
            case "lazy":
                all.add(new Run(i, List.of()));
                addRounds(all, p, i);
                break;
            default:
                for (Run x : runs(p.x, i)) {
                    all.add(x.then(new Run(x.end, List.of(new Setting(p.value, i, x.end)))));
                }
                break;
        }
        made += all.size();
        if (made > MOST_RUNS) {
            throw new TooManyRuns();
        }
        return all;
    }

    void addRounds(List<Run> all, Pattern p, int i) {
        for (Run x : runs(p.x, i)) {
            if (x.end > i) {
                addAfter(all, x, p);
            }
        }
    }

    void addAfter(List<Run> all, Run x, Pattern next) {
        for (Run y : runs(next, x.end)) {
            all.add(x.then(y));
        }
    }

    int find(int f) {
        if (f < 0 || f > n()) {
            return -4;
        }
        for (int i = f; i <= n(); i++) {
            if (!runsOfUsed(i).isEmpty()) {
                return i;
            }
        }
        return -4;
    }

    int end(int f) {
        int begin = find(f);
        return begin == -4 ? -4 : runsOfUsed(begin).get(0).end;
    }

    int groupIn(int f, int g) {
        int begin = find(f);
        return begin == -4 ? -4 : runsOfUsed(begin).get(0).group(g);
    }

    boolean spans(int i, int j) {
        if (i < 0 || i > n() || j < 0 || j > n()) {
            return false;
        }
        return runsOfUsed(i).stream().anyMatch(r -> r.end == j);
    }

    int groupInWhole(int g) {
        for (Run r : runsOfUsed(0)) {
            if (r.end == n()) {
                return r.group(g);
            }
        }
        return -4;
    }

    List<int[]> finds() {
        List<int[]> all = new ArrayList<>();
        int from = 0;
        while (find(from) != -4) {
            int begin = find(from);
            int end = end(from);
            all.add(new int[] {begin, end});
            from = begin == end ? end + 1 : end;
        }
        return all;
    }

    int count() {
        return finds().size();
    }

    int longest() {
        return finds().stream().mapToInt(f -> f[1] - f[0]).max().orElse(-4);
    }
}

/**
 * Long runs of calls on the class and on a model that writes every run of a pattern down as the
 * document's table of runs says it, with no run left out. The calls are made up by a fixed rule,
 * so that they are the same each time.
 */
public final class ReferenceTest {
    private static final int OBJECTS = 4000;
    private static final int CALLS = 250;

    private static int wrong = 0;
    private static long compared = 0;
    private static long skipped = 0;
    private static long state = 20261115L;

    public static void main(String[] args) {
        for (int object = 0; object < OBJECTS && wrong < 20; object++) {
            compareOne(object);
        }
        System.out.println(compared + " answers compared, " + skipped + " left out for too many runs, " + wrong + " wrong");
        if (wrong != 0 || compared < 100000) {
            System.exit(1);
        }
    }

    private static int below(int bound) {
        state = state * 6364136223846793005L + 1442695040888963407L;
        return (int) ((state >>> 33) % bound);
    }

    /** Mostly 0 to most, now and then a number outside. */
    private static int argument(int most) {
        if (below(20) > 0) {
            return below(most + 1);
        }
        int[] outside = {-1, most + 1, most + 2, Integer.MIN_VALUE, Integer.MAX_VALUE, 256, -4, 1 << 30};
        return outside[below(outside.length)];
    }

    private static void compareOne(int object) {
        RegexCaptures x = new RegexCaptures();
        Model m = new Model();
        // Some objects build small patterns and ask much, others go to the limits.
        int building = 20 + below(60);
        StringBuilder calls = new StringBuilder();
        for (int call = 0; call < CALLS; call++) {
            int what = below(100) < building ? below(19) : 19 + below(10);
            int a = what >= 20 ? argument(m.n()) : argument(2);
            int b = what == 26 || what == 27 ? argument(m.n()) : argument(2);
            calls.append(what).append("(").append(a).append(",").append(b).append(") ");
            long want;
            try {
                want = onModel(m, what, a, b);
            } catch (Model.TooManyRuns e) {
                skipped++;
                continue;
            }
            long got = onClass(x, what, a, b);
            compared++;
            if (got != want) {
                wrong++;
                System.out.println("object " + object + ": " + calls + "answered " + got + ", due is " + want);
                return;
            }
        }
    }

    private static long onClass(RegexCaptures x, int what, int a, int b) {
        switch (what) {
            case 0: case 1: case 2: return x.letter(a);
            case 3: return x.any();
            case 4: return x.empty();
            case 5: case 6: return x.cat();
            case 7: case 8: return x.alt();
            case 9: return x.star();
            case 10: return x.lazy();
            case 11: case 12: return x.group(a);
            case 13: return defineOrDiscard(x);
            case 14: case 15: case 16: case 17: return x.feed(a);
            case 18: return eraseIfFull(x);
            case 19: return 100 * x.steps() + 10 * x.depth() + x.length();
            case 20: return x.find(a);
            case 21: return x.end(a);
            case 22: case 23: return x.groupIn(a, b);
            case 24: return x.count();
            case 25: return x.longest();
            case 26: case 27: return x.spans(a, b) ? 1 : 0;
            default: return x.groupInWhole(b);
        }
    }

    private static long onModel(Model m, int what, int a, int b) {
        switch (what) {
            case 0: case 1: case 2: return m.leaf("letter", a);
            case 3: return m.leaf("any", 0);
            case 4: return m.leaf("empty", 0);
            case 5: case 6: return m.join("cat");
            case 7: case 8: return m.join("alt");
            case 9: return m.wrap("star", 0);
            case 10: return m.wrap("lazy", 0);
            case 11: case 12: return m.wrap("group", a);
            case 13: return m.defineOrDiscard();
            case 14: case 15: case 16: case 17: return m.feed(a);
            case 18: return m.eraseIfFull();
            case 19: return 100 * m.steps + 10 * m.stack.size() + m.n();
            case 20: return m.find(a);
            case 21: return m.end(a);
            case 22: case 23: return m.groupIn(a, b);
            case 24: return m.count();
            case 25: return m.longest();
            case 26: case 27: return m.spans(a, b) ? 1 : 0;
            default: return m.groupInWhole(b);
        }
    }

    /** Discards a stack of five, else defines: so that both are met in the course of the calls. */
    private static long defineOrDiscard(RegexCaptures x) {
        if (x.depth() == 5) {
            x.discard();
            return 0;
        }
        return x.define();
    }

    private static long eraseIfFull(RegexCaptures x) {
        if (x.length() >= 7) {
            x.erase();
        }
        return x.length();
    }
}

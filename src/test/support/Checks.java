import java.util.Collections;
import java.util.function.ToIntFunction;

/** What the tests share: answers set against those that are due, and patterns written as a line. */
abstract class Checks {
    static final int BAD_ARG = -1;
    static final int FULL = -2;
    static final int TOO_FEW = -3;
    static final int NONE = -4;
    static final int LEAST = Integer.MIN_VALUE;
    static final int GREATEST = Integer.MAX_VALUE;

    /** For letters and groups: just outside, the ends of int, and what looks right once it is cut to fewer bits. */
    static final int[] NOT_0_TO_2 = {-1, 3, LEAST, GREATEST, -2, -4, 4, 32, 256, 1 << 16, LEAST + 1, LEAST + 2};

    /** The pattern in use and the text while a refused call is made: every group, every kind of find. */
    static final Before BUSY = new Before("0*a1b&2c|", "2001", "");

    private static String about = "";
    private static int wrong = 0;

    /** An object with a pattern in use, a text, and what is on the stack. */
    record Before(String inUse, String text, String stack) {
        Before text(String letters) {
            return new Before(inUse, letters, stack);
        }

        Before stack(String steps) {
            return new Before(inUse, text, steps);
        }

        RegexCaptures make() {
            RegexCaptures x = with(inUse, text);
            build(x, stack);
            return x;
        }
    }

    /** Runs one test; what it finds wrong is told with the sentence that it is about. */
    static void test(String sentence, Runnable body) {
        about = sentence;
        try {
            body.run();
        } catch (RuntimeException e) {
            wrong++;
            System.out.println(about + ": threw " + e);
        }
    }

    static boolean allAsDue() {
        return wrong == 0;
    }

    static void finish() {
        System.out.println(wrong == 0 ? "all answers are as due" : wrong + " answers are not as due");
        if (wrong != 0) {
            System.exit(1);
        }
    }

    static void due(String what, long got, long want) {
        due(what, "" + got, "" + want);
    }

    static void due(String what, boolean got, boolean want) {
        due(what, "" + got, "" + want);
    }

    static void due(String what, String got, String want) {
        if (!got.equals(want)) {
            wrong++;
            System.out.println(about + ": " + what + " answered " + got + ", due is " + want);
        }
    }

    /** One call of a pattern in postfix form: 0 1 2 letter, . any, e empty, & cat, | alt, * star, ? lazy, a b c group. */
    static int step(RegexCaptures x, char step) {
        switch (step) {
            case '.': return x.any();
            case 'e': return x.empty();
            case '&': return x.cat();
            case '|': return x.alt();
            case '*': return x.star();
            case '?': return x.lazy();
            case 'a': return x.group(0);
            case 'b': return x.group(1);
            case 'c': return x.group(2);
            default: return x.letter(step - '0');
        }
    }

    /** Makes every step and answers what the last one answered. */
    static int build(RegexCaptures x, String postfix) {
        int last = 0;
        for (char step : postfix.toCharArray()) {
            last = step(x, step);
        }
        return last;
    }

    static void write(RegexCaptures x, String text) {
        for (char c : text.toCharArray()) {
            x.feed(c - '0');
        }
    }

    static RegexCaptures with(String postfix, String text) {
        RegexCaptures x = building(postfix);
        x.define();
        write(x, text);
        return x;
    }

    static RegexCaptures building(String postfix) {
        RegexCaptures x = new RegexCaptures();
        build(x, postfix);
        return x;
    }

    static String times(int n, String s) {
        return String.join("", Collections.nCopies(n, s));
    }

    /** All that the object tells of the pattern in use and the text: 182 calls at 10 letters. */
    static String found(RegexCaptures x) {
        // Asked once: an object promises nothing after 512 calls.
        int n = x.length();
        StringBuilder s = new StringBuilder("n=" + n);
        for (int f = 0; f <= n; f++) {
            s.append(" ").append(x.find(f)).append("-").append(x.end(f));
            for (int g = 0; g < 3; g++) {
                s.append("/").append(x.groupIn(f, g));
            }
            for (int j = 0; j <= n; j++) {
                s.append(x.spans(f, j) ? "+" : ".");
            }
        }
        for (int g = 0; g < 3; g++) {
            s.append(" w").append(x.groupInWhole(g));
        }
        return s + " c" + x.count() + " l" + x.longest();
    }

    /** All that the object tells. */
    static String told(RegexCaptures x) {
        return "steps=" + x.steps() + " depth=" + x.depth() + " " + found(x);
    }

    /** The ends that spans tells from i, such as "0 2". */
    static String ends(RegexCaptures x, int i) {
        int n = x.length();
        StringBuilder s = new StringBuilder();
        for (int j = 0; j <= n; j++) {
            s.append(x.spans(i, j) ? (s.length() == 0 ? "" : " ") + j : "");
        }
        return s.toString();
    }

    /** The stack that the steps make, with a pattern in use and a text beside it, refuses one more step. */
    static void refused(String stack, char step, int code) {
        refused(BUSY.stack(stack), "step " + step, x -> step(x, step), code);
    }

    /** The call answers its code, and the object stays like its twin that was never asked. */
    static void refused(Before before, String what, ToIntFunction<RegexCaptures> call, int code) {
        // The stack can't be looked at, so it is used up in three ways, each on objects of its own.
        for (String rest : new String[] {"||||||", "&&&&&&", "abc"}) {
            RegexCaptures asked = before.make();
            RegexCaptures spared = before.make();
            String where = before + " then " + what;
            due(where, call.applyAsInt(asked), code);
            due(where + ", all that it tells", told(asked), told(spared));
            for (char step : rest.toCharArray()) {
                due(where + ", then " + step, step(asked, step), step(spared, step));
            }
            due(where + ", defined", asked.define(), spared.define());
            due(where + ", feed", asked.feed(1), spared.feed(1));
            due(where + ", in use", told(asked), told(spared));
        }
    }
}

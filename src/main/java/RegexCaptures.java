/**
 * Patterns with choices that have an order and with groups, and what they find in a text.
 *
 * A pattern is a list of parts, each after the parts it is made of, so that the last part is the
 * whole. For every part and every place between there is a table of its runs in order of
 * preference. Of several runs to the same end only the first is kept: whatever could follow a
 * later one follows the first one too, and is preferred there. So a table never holds more runs
 * than there are places between.
 */
public final class RegexCaptures {
    public static final int BAD_ARG = -1;
    public static final int FULL = -2;
    public static final int TOO_FEW = -3;
    public static final int NONE = -4;

    private static final int LETTERS = 3;
    private static final int GROUPS = 3;
    private static final int MAX_STEPS = 16;
    private static final int MAX_DEPTH = 6;
    private static final int MAX_TEXT = 10;
    private static final int PLACES = MAX_TEXT + 1;
    private static final int STARTS = MAX_STEPS * PLACES;
    private static final int RUNS = STARTS * PLACES;
    private static final int RUN_GROUPS = RUNS * GROUPS;

    private static final int LETTER = 0;
    private static final int ANY = 1;
    private static final int EMPTY = 2;
    private static final int CAT = 3;
    private static final int ALT = 4;
    private static final int STAR = 5;
    private static final int LAZY = 6;
    private static final int GROUP = 7;

    private static final int ACCEPTED = 0;
    private static final int NO_PART = -1;
    private static final int NO_RUN = -1;

    // The parts on the stack, one for each step; stack[] tells the last part of each pattern.
    private final int[] builtKind = new int[MAX_STEPS];
    private final int[] builtValue = new int[MAX_STEPS];
    private final int[] builtFirst = new int[MAX_STEPS];
    private final int[] builtSecond = new int[MAX_STEPS];
    private final int[] builtGroups = new int[MAX_STEPS];
    private int builtParts;
    private final int[] stack = new int[MAX_DEPTH];
    private int held;

    // The pattern in use.
    private final int[] usedKind = new int[MAX_STEPS];
    private final int[] usedValue = new int[MAX_STEPS];
    private final int[] usedFirst = new int[MAX_STEPS];
    private final int[] usedSecond = new int[MAX_STEPS];
    private int usedParts;

    private final int[] text = new int[MAX_TEXT];
    private int textLength;

    // A start is a part and the place between it begins at; a run is a start and its end.
    private final int[] runCount = new int[STARTS];
    private final int[] endInOrder = new int[RUNS];
    private final boolean[] runExists = new boolean[RUNS];
    private final int[] runGroup = new int[RUN_GROUPS];

    public RegexCaptures() {
        usedKind[0] = EMPTY;
        usedParts = 1;
        fillTables();
    }

    public int letter(int c) {
        if (c < 0 || c >= LETTERS) {
            return BAD_ARG;
        }
        return push(LETTER, c);
    }

    public int any() {
        return push(ANY, 0);
    }

    public int empty() {
        return push(EMPTY, 0);
    }

    public int cat() {
        return join(CAT);
    }

    public int alt() {
        return join(ALT);
    }

    public int star() {
        return wrap(STAR, 0);
    }

    public int lazy() {
        return wrap(LAZY, 0);
    }

    public int group(int g) {
        if (!isGroup(g)) {
            return BAD_ARG;
        }
        int refusal = wrapRefusal();
        if (refusal != ACCEPTED) {
            return refusal;
        }
        if (topHasGroup(g)) {
            return NONE;
        }
        return wrap(GROUP, g);
    }

    public int steps() {
        return builtParts;
    }

    public int depth() {
        return held;
    }

    public void discard() {
        emptyStack();
    }

    public int define() {
        if (held == 0) {
            return TOO_FEW;
        }
        int answer = held;
        useBuiltParts();
        emptyStack();
        fillTables();
        return answer;
    }

    public int feed(int c) {
        if (c < 0 || c >= LETTERS) {
            return BAD_ARG;
        }
        if (textLength == MAX_TEXT) {
            return FULL;
        }
        text[textLength] = c;
        textLength++;
        fillTables();
        return textLength;
    }

    public void erase() {
        textLength = 0;
        fillTables();
    }

    public int length() {
        return textLength;
    }

    public int find(int f) {
        return beginFrom(f);
    }

    public int end(int f) {
        int begin = beginFrom(f);
        if (begin == NONE) {
            return NONE;
        }
        return preferredEnd(begin);
    }

    public int groupIn(int f, int g) {
        int begin = beginFrom(f);
        if (begin == NONE || !isGroup(g)) {
            return NONE;
        }
        int end = preferredEnd(begin);
        return groupOfWhole(begin, end, g);
    }

    public boolean spans(int i, int j) {
        return isPlace(i) && isPlace(j) && wholeRuns(i, j);
    }

    public int groupInWhole(int g) {
        if (!isGroup(g) || !wholeRuns(0, textLength)) {
            return NONE;
        }
        return groupOfWhole(0, textLength, g);
    }

    public int count() {
        int finds = 0;
        int from = 0;
        for (int i = 0; i <= textLength; i++) {
            if (i >= from && wholeBegins(i)) {
                finds++;
                from = preferredEnd(i);
            }
        }
        return finds;
    }

    public int longest() {
        int most = NONE;
        int from = 0;
        for (int i = 0; i <= textLength; i++) {
            if (i >= from && wholeBegins(i)) {
                from = preferredEnd(i);
                // NONE is less than every difference, so the first find always replaces it.
                most = from - i > most ? from - i : most;
            }
        }
        return most;
    }

    private boolean isGroup(int g) {
        return g >= 0 && g < GROUPS;
    }

    private boolean isPlace(int i) {
        return i >= 0 && i <= textLength;
    }

    private int push(int kind, int value) {
        if (builtParts == MAX_STEPS || held == MAX_DEPTH) {
            return FULL;
        }
        held++;
        addTopPart(kind, value, NO_PART, NO_PART);
        return held;
    }

    private int join(int kind) {
        if (builtParts == MAX_STEPS) {
            return FULL;
        }
        if (held < 2) {
            return TOO_FEW;
        }
        held--;
        addTopPart(kind, 0, stack[held - 1], stack[held]);
        return held;
    }

    private int wrapRefusal() {
        if (builtParts == MAX_STEPS) {
            return FULL;
        }
        return held == 0 ? TOO_FEW : ACCEPTED;
    }

    private int wrap(int kind, int value) {
        int refusal = wrapRefusal();
        if (refusal != ACCEPTED) {
            return refusal;
        }
        addTopPart(kind, value, stack[held - 1], NO_PART);
        return held;
    }

    private void addTopPart(int kind, int value, int first, int second) {
        int groups = kind == GROUP ? 1 << value : 0;
        if (first != NO_PART) {
            groups |= builtGroups[first];
        }
        if (second != NO_PART) {
            groups |= builtGroups[second];
        }
        builtKind[builtParts] = kind;
        builtValue[builtParts] = value;
        builtFirst[builtParts] = first;
        builtSecond[builtParts] = second;
        builtGroups[builtParts] = groups;
        stack[held - 1] = builtParts;
        builtParts++;
    }

    private boolean topHasGroup(int g) {
        return (builtGroups[stack[held - 1]] >> g & 1) == 1;
    }

    private void emptyStack() {
        held = 0;
        builtParts = 0;
    }

    // Every accepted step makes the top, so the top is the last part and parts of the patterns
    // below it do no harm: nothing in the top leads to them.
    private void useBuiltParts() {
        for (int part = 0; part < builtParts; part++) {
            usedKind[part] = builtKind[part];
            usedValue[part] = builtValue[part];
            usedFirst[part] = builtFirst[part];
            usedSecond[part] = builtSecond[part];
        }
        usedParts = builtParts;
    }

    // Parts come after what they are made of, and a repetition goes on from a later place: in
    // this order everything that a table is made from stands already.
    private void fillTables() {
        for (int part = 0; part < usedParts; part++) {
            for (int i = textLength; i >= 0; i--) {
                clearRuns(part, i);
                addRuns(part, i);
            }
        }
    }

    private void clearRuns(int part, int i) {
        int start = part * PLACES + i;
        runCount[start] = 0;
        for (int end = 0; end < PLACES; end++) {
            runExists[start * PLACES + end] = false;
        }
    }

    private void addRuns(int part, int i) {
        int start = part * PLACES + i;
        int first = usedFirst[part];
        int second = usedSecond[part];
        switch (usedKind[part]) {
            case LETTER:
                if (i < textLength && text[i] == usedValue[part]) {
                    addRun(start, i + 1, NO_RUN, NO_RUN);
                }
                break;
            case ANY:
                if (i < textLength) {
                    addRun(start, i + 1, NO_RUN, NO_RUN);
                }
                break;
            case CAT:
                addRunsOfBoth(start, first * PLACES + i, second, i);
                break;
            case ALT:
                addSameRuns(start, first * PLACES + i);
                addSameRuns(start, second * PLACES + i);
                break;
            case STAR:
                addRunsOfBoth(start, first * PLACES + i, part, i + 1);
                addRun(start, i, NO_RUN, NO_RUN);
                break;
            case LAZY:
                addRun(start, i, NO_RUN, NO_RUN);
                addRunsOfBoth(start, first * PLACES + i, part, i + 1);
                break;
            case GROUP:
                addSameRuns(start, first * PLACES + i);
                setGroup(start, usedValue[part], i);
                break;
            case EMPTY:
            default:
                addRun(start, i, NO_RUN, NO_RUN);
                break;
        }
    }

    private void addSameRuns(int start, int from) {
        int runs = runCount[from];
        for (int rank = 0; rank < runs; rank++) {
            int end = endInOrder[from * PLACES + rank];
            addRun(start, end, from * PLACES + end, NO_RUN);
        }
    }

    // Each run from the start 'from' that ends at 'least' or later, with each run of the part
    // 'next' from where it ends.
    private void addRunsOfBoth(int start, int from, int next, int least) {
        int runs = runCount[from];
        for (int rank = 0; rank < runs; rank++) {
            int middle = endInOrder[from * PLACES + rank];
            int then = next * PLACES + middle;
            int nextRuns = middle >= least ? runCount[then] : 0;
            for (int nextRank = 0; nextRank < nextRuns; nextRank++) {
                int end = endInOrder[then * PLACES + nextRank];
                addRun(start, end, from * PLACES + middle, then * PLACES + end);
            }
        }
    }

    private void addRun(int start, int end, int earlier, int later) {
        int run = start * PLACES + end;
        if (runExists[run]) {
            return;
        }
        runExists[run] = true;
        endInOrder[start * PLACES + runCount[start]] = end;
        runCount[start]++;
        for (int g = 0; g < GROUPS; g++) {
            int set = NONE;
            if (later != NO_RUN) {
                set = runGroup[later * GROUPS + g];
            }
            if (set == NONE && earlier != NO_RUN) {
                set = runGroup[earlier * GROUPS + g];
            }
            runGroup[run * GROUPS + g] = set;
        }
    }

    private void setGroup(int start, int g, int begin) {
        int runs = runCount[start];
        for (int rank = 0; rank < runs; rank++) {
            int end = endInOrder[start * PLACES + rank];
            runGroup[(start * PLACES + end) * GROUPS + g] = 16 * begin + end;
        }
    }

    private int startOfWhole(int i) {
        return (usedParts - 1) * PLACES + i;
    }

    private boolean wholeBegins(int i) {
        int start = startOfWhole(i);
        return runCount[start] > 0;
    }

    private boolean wholeRuns(int i, int j) {
        int start = startOfWhole(i);
        return runExists[start * PLACES + j];
    }

    private int preferredEnd(int i) {
        int start = startOfWhole(i);
        return endInOrder[start * PLACES];
    }

    private int groupOfWhole(int i, int j, int g) {
        int start = startOfWhole(i);
        return runGroup[(start * PLACES + j) * GROUPS + g];
    }

    private int beginFrom(int f) {
        if (!isPlace(f)) {
            return NONE;
        }
        for (int i = f; i <= textLength; i++) {
            if (wholeBegins(i)) {
                return i;
            }
        }
        return NONE;
    }
}
